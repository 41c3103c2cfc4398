/-! the walkers of the storm (made by wip/gen/walker.tmpl) -/
theorem d_wear_55 {d q p : Nat} {pf : Nat → Nat → Nat} {w : am_M} (hd : 2 ≤ d) (hP : cPeople w q pf) (hp : p < q) : ∃ o : am_O, (o.1 = none ∧ am_fr 55 w o.2 ∧ wkP (o.2.1 55) (pf p 0, pf p 1, pf p 2, pf p 3, pf p 4)) ∧ am_D shC d mi_X10_wear [.ref 55, .ref 16, .int (nI p)] w o := by
  refine am_dex (by omega) rfl rfl ?_
  iterate 5 (first | refine am_g0 rfl rfl ?_ | refine am_go rfl ?_)
  refine ⟨(some (.int (nI (pf p 0))), w), d_ptold (j := 0) (by omega) hP hp (by omega), ?_⟩
  iterate 6 (first | refine am_g0 rfl rfl ?_ | refine am_go rfl ?_)
  refine ⟨(some (.int (nI (pf p 1))), _), d_ptold (j := 1) (by omega) (hP.fr (fun a ha => am_pi_row (by omega))) hp (by omega), ?_⟩
  iterate 6 (first | refine am_g0 rfl rfl ?_ | refine am_go rfl ?_)
  refine ⟨(some (.int (nI (pf p 2))), _), d_ptold (j := 2) (by omega) (hP.fr (fun a ha => (am_pi_row (by omega)).trans (am_pi_row (by omega)))) hp (by omega), ?_⟩
  iterate 6 (first | refine am_g0 rfl rfl ?_ | refine am_go rfl ?_)
  refine ⟨(some (.int (nI (pf p 3))), _), d_ptold (j := 3) (by omega) (hP.fr (fun a ha => (am_pi_row (by omega)).trans ((am_pi_row (by omega)).trans (am_pi_row (by omega))))) hp (by omega), ?_⟩
  iterate 6 (first | refine am_g0 rfl rfl ?_ | refine am_go rfl ?_)
  refine ⟨(some (.int (nI (pf p 4))), _), d_ptold (j := 4) (by omega) (hP.fr (fun a ha => (am_pi_row (by omega)).trans ((am_pi_row (by omega)).trans ((am_pi_row (by omega)).trans (am_pi_row (by omega)))))) hp (by omega), ?_⟩
  iterate 2 (first | refine am_g0 rfl rfl ?_ | refine am_go rfl ?_)
  exact ⟨rfl, rfl, ((((am_fr.rf.pi).pi).pi).pi).pi, rfl, rfl, rfl, rfl, rfl⟩
theorem d_begin_55 {d : Nat} {V : Wd} {P : Pr} {w : am_M} (hd : 2 ≤ d) (hV : cV w V) (hP : wkP (w.1 55) P) (hk : P.1 < 40) : ∃ o : am_O, (o.1 = none ∧ am_fr 55 w o.2 ∧ wkP (o.2.1 55) P ∧ wkQ (o.2.1 55) (beginS V P) none) ∧ am_D shC d mi_X10_begin [.ref 55] w o := by
  have hT := hV.1
  refine am_dex (by omega) rfl rfl ?_
  iterate 6 (first | refine am_g0 rfl rfl ?_ | refine am_go rfl ?_)
  obtain ⟨p1, p2, p3, p4, p5⟩ := hP
  rw [p1]
  by_cases hc : P.1 < V.1
  · refine ⟨(some (.int (nI (stOf (V.2.1 P.1)))), w), d_stateOn_t (by omega) hT hc, ?_⟩
    iterate 6 (first | refine am_g0 rfl rfl ?_ | refine am_go rfl ?_)
    have hst : stOf (V.2.1 P.1) < 4 := by unfold stOf; split; omega; split; omega; split; omega; omega
    by_cases h3 : stOf (V.2.1 P.1) = 3
    · refine am_tt (show nI (stOf (V.2.1 P.1)) = 3 by rw [h3]; rfl) ?_
      iterate 16 (first | refine am_g0 rfl rfl ?_ | refine am_go rfl ?_)
      have hb : beginS V P = (P.1, 3, 0, 0, 0) := by unfold beginS; rw [if_pos hc, h3]
      refine ⟨rfl, rfl, ((((((am_fr.rf.pi).pi).pi).pi).pi).pi), ⟨p1, p2, p3, p4, p5⟩, ?_⟩
      rw [hb]
      refine ⟨rfl, ?_, rfl, rfl, rfl, rfl⟩
      show nI (stOf (V.2.1 P.1)) = nI 3
      rw [h3]
    · refine am_ff (show ¬ nI (stOf (V.2.1 P.1)) = 3 from fun z => h3 ((nI_eq (b := 3) (by omega) (by omega)).mp z)) ?_
      iterate 16 (first | refine am_g0 rfl rfl ?_ | refine am_go rfl ?_)
      have hb : beginS V P = (P.1, stOf (V.2.1 P.1), 0, 0, 0) := by unfold beginS; rw [if_pos hc]
      refine ⟨rfl, rfl, ((((((am_fr.rf.pi).pi).pi).pi).pi).pi), ⟨p1, p2, p3, p4, p5⟩, ?_⟩
      rw [hb]
      refine ⟨?_, rfl, rfl, rfl, rfl, rfl⟩
      show w.1 55 2 = plc (P.1, stOf (V.2.1 P.1), 0, 0, 0)
      rw [p1]
      unfold plc
      rw [if_neg h3]
  · refine ⟨(some (.int 3), w), d_stateOn_f (by omega) hT (Or.inr (nI_le (by omega) (by omega))), ?_⟩
    iterate 22 (first | refine am_g0 rfl rfl ?_ | refine am_go rfl ?_)
    have hb : beginS V P = (P.1, 3, 0, 0, 0) := by unfold beginS; rw [if_neg hc]
    refine ⟨rfl, rfl, ((((((am_fr.rf.pi).pi).pi).pi).pi).pi), ⟨p1, p2, p3, p4, p5⟩, ?_⟩
    rw [hb]
    exact ⟨rfl, rfl, rfl, rfl, rfl, rfl⟩
theorem d_gotail_55 {d : Nat} {V : Wd} {w : am_M} {c a : Nat} {x : Int32} {Φ : am_O → Prop} (hd : 1 ≤ d) (hV : cV w V) (hc : w.1 55 7 = nI c) (hcn : c < V.1) (hx : x = nI a) (ha : a < 4) (hΦ : Φ (none, am_pi (am_pi w 55 7 (nI (V.2.2.1 c a))) 55 8 (nI (stOf (V.2.1 (V.2.2.1 c a)))))) : am_R shC mi_X10_go (am_D shC d) Φ 186 [(0, .ref 55), (3, .int x)] [] w := by
  have hT := hV.1
  subst hx
  iterate 7 (first | refine am_g0 rfl rfl ?_ | refine am_go rfl ?_)
  rw [hc]
  refine ⟨(some (.int (nI (V.2.2.1 c a))), w), d_nextOf hd hT hcn ha, ?_⟩
  iterate 7 (first | refine am_g0 rfl rfl ?_ | refine am_go rfl ?_)
  refine ⟨(some (.int (nI (stOf (V.2.1 (V.2.2.1 c a))))), _), d_stateOn_t hd (hT.fr (fun b hb => am_pi_row (by omega))) ((hT.2.2.2 c hcn a ha).2.1), ?_⟩
  iterate 2 (first | refine am_g0 rfl rfl ?_ | refine am_go rfl ?_)
  exact ⟨rfl, hΦ⟩
set_option maxHeartbeats 8000000 in
theorem d_go_55 {d : Nat} {V : Wd} {P : Pr} {q : Qs} {b0 : Option Nat} {s : Nat} {r : Bool} {w : am_M} (hd : 2 ≤ d) (hV : cV w V) (hP : wkP (w.1 55) P) (hPb : Pok P) (hQ : wkQ (w.1 55) q b0) (hq : qok V P q s) (hs : s < 30) : ∃ o : am_O, (o.1 = none ∧ am_fr 55 w o.2 ∧ wkP (o.2.1 55) P ∧ wkQ (o.2.1 55) (goS V P s r q).1 (goS V P s r q).2) ∧ am_D shC d mi_X10_go [.ref 55, .int (nI s), .int (if r then 1 else 0)] w o := by
  obtain ⟨p1, p2, p3, p4, p5⟩ := hP
  obtain ⟨q1, q2, q3, q4, q5, q6⟩ := hQ
  obtain ⟨b1, b2, b3, b4, b5⟩ := hPb
  obtain ⟨qa, qb, qc, qd, qe⟩ := hq
  have hsol := pow_bd P.2.2.2.1 b4
  refine am_dex (by omega) rfl rfl ?_
  iterate 6 (first | refine am_g0 rfl rfl ?_ | refine am_go rfl ?_)
  by_cases h0 : q.2.1 = 0
  · refine am_tt (show w.1 55 8 = 0 by rw [q2, h0]; rfl) ?_
    have hpl : w.1 55 7 = nI q.1 := by rw [q1]; unfold plc; rw [if_neg (by omega)]
    have hcn : q.1 < V.1 := (qb (by omega)).1
    have hk1 : V.2.1 q.1 ≠ 1 := fun z => by
      have := (qb (by omega)).2
      rw [z, h0] at this
      exact absurd this (by decide)
    have h3 : ([1, 3, 9, 27, 81, 243] : List Int32).getD (w.1 55 5).toNatClampNeg 0 = nI (3 ^ P.2.2.2.1) := by rw [p4, nI_clamp (by omega), List.getD_eq_getElem?_getD, hsol.2.2.2]; rfl
    have h3b : ¬ (w.1 55 5 < 0 ∨ 6 ≤ (w.1 55 5).toNatClampNeg) := by rw [p4]; exact nI_in b4 (by decide)
    -- the weight that is put on
    have key : ∀ W0 : Nat, W0 = (if r then 0 else q.2.2.1 + 2 ^ P.2.2.2.1) → am_R shC mi_X10_go (am_D shC (d - 1)) (fun o => o.1 = none ∧ am_fr 55 w o.2 ∧ wkP (o.2.1 55) P ∧ wkQ (o.2.1 55) (goS V P s r q).1 (goS V P s r q).2) 38 [(0, .ref 55), (1, .int (nI s)), (3, .int (w.1 55 6))] [.int (nI W0), .ref 55] (am_pi w 55 12 (-1)) := by
      intro W0 hW0
      have hW1 : W0 < 1000 := by rw [hW0]; split <;> omega
      iterate 7 (first | refine am_g0 rfl rfl ?_ | refine am_go rfl ?_)
      refine am_ff h3b ?_
      refine am_top h3 ?_
      iterate 1 (first | refine am_g0 rfl rfl ?_ | refine am_go rfl ?_)
      by_cases hw : W0 < 3 ^ P.2.2.2.1
      · refine am_tt (show nI W0 < nI (3 ^ P.2.2.2.1) from nI_lt hw (by omega)) ?_
        have hg : goS V P s r q = ((V.2.2.1 q.1 P.2.2.2.2, stOf (V.2.1 (V.2.2.1 q.1 P.2.2.2.2)), W0, q.2.2.2.1, q.2.2.2.2), none) := by unfold goS; rw [if_neg (by omega), ← hW0, if_pos hw]
        rw [hg]
        refine am_kl (d_gotail_55 (by omega) (hV.fr (fun a ha => ?_)) (c := q.1) hpl hcn p5 b5 ?_) rfl
        · exact ((am_fr.rf.pi).pi (b := 55)).1 a (by omega)
        · exact ⟨rfl, ((((am_fr.rf.pi).pi).pi).pi), ⟨p1, p2, p3, p4, p5⟩, plc_free hV hcn b5 hk1, rfl, rfl, q4, q5, rfl⟩
      · refine am_ff (show ¬ nI W0 < nI (3 ^ P.2.2.2.1) from nI_nlt (by omega) (by omega)) ?_
        iterate 7 (first | refine am_g0 rfl rfl ?_ | refine am_go rfl ?_)
        refine am_ff h3b ?_
        refine am_top h3 ?_
        iterate 1 (first | refine am_g0 rfl rfl ?_ | refine am_go rfl ?_)
        refine am_top (y := nI (W0 - 3 ^ P.2.2.2.1)) (pk_sub (by omega)) ?_
        -- which foot
        have foot : ∀ (ev : Bool) (l t : Nat), (ev = true ↔ s % 2 = 0) → l = (if s % 2 = 0 then P.2.1 else P.2.2.1) → t = (if s % 2 = 0 then q.2.2.2.1 else q.2.2.2.2) → am_R shC mi_X10_go (am_D shC (d - 1)) (fun o => o.1 = none ∧ am_fr 55 w o.2 ∧ wkP (o.2.1 55) P ∧ wkQ (o.2.1 55) (goS V P s r q).1 (goS V P s r q).2) 84 [(0, .ref 55), (3, .int (w.1 55 6))] [.int (if ev then 1 else 0)] (am_pi (am_pi (am_pi w 55 12 (-1)) 55 9 (nI W0)) 55 9 (nI (W0 - 3 ^ P.2.2.2.1))) := by
          intro ev l t hev hl ht
          have hl8 : l < 8 := by rw [hl]; split <;> omega
          have ht30 : t ≤ s := by rw [ht]; split <;> omega
          have hlm : V.2.2.2.1 ≤ 8 := hV.2.2.1
          by_cases hm : l < V.2.2.2.1
          · have hlet := (hV.2.2.2 l hm).2.2.2.2.2 (t % V.2.2.2.2.2.1 l) (Nat.mod_lt _ (by have := (hV.2.2.2 l hm).2.2.2.1; omega))
            obtain ⟨A, hA⟩ : ∃ A, A = wayS (V.2.2.2.2.1 l) (V.2.2.2.2.2.1 l) (V.2.2.2.2.2.2 l) t := ⟨_, rfl⟩
            have hway : A < 4 := by rw [hA]; exact wayS_lt hlet.2
            have hg : goS V P s r q = ((V.2.2.1 q.1 A, stOf (V.2.1 (V.2.2.1 q.1 A)), W0 - 3 ^ P.2.2.2.1, q.2.2.2.1 + (if s % 2 = 0 then 1 else 0), q.2.2.2.2 + (if s % 2 = 0 then 0 else 1)), some l) := by unfold goS; rw [if_neg (by omega), ← hW0, if_neg hw, ← hl, ← ht, if_pos hm, ← hA]
            have call : ∀ w1 : am_M, (∀ a, a < 16 → w1.1 a = w.1 a) → am_D shC (d - 1) mi_X0_wayOf [.ref 12, .int (nI l), .int (nI t)] w1 (some (.int (nI A)), w1) := fun w1 h1 => by rw [hA]; exact d_wayOf (by omega) (hV.2.fr h1) hm (by omega)
            have hw1 : ∀ a, a < 16 → (am_pi (am_pi (am_pi w 55 12 (-1)) 55 9 (nI W0)) 55 9 (nI (W0 - 3 ^ P.2.2.2.1))).1 a = w.1 a := fun a ha => (((am_fr.rf.pi).pi).pi (b := 55)).1 a (by omega)
            cases ev with
            | true =>
              have he : s % 2 = 0 := hev.mp rfl
              rw [if_pos he] at hl ht
              refine am_top (y := 1) rfl ?_
              iterate 12 (first | refine am_g0 rfl rfl ?_ | refine am_go rfl ?_)
              refine am_ff (show ¬ w.1 12 3 ≤ w.1 55 3 by rw [hV.2.1, p2, ← hl]; exact nI_ge hm (by omega)) ?_
              iterate 9 (first | refine am_g0 rfl rfl ?_ | refine am_go rfl ?_)
              refine ⟨(some (.int (nI A)), am_pi (am_pi (am_pi w 55 12 (-1)) 55 9 (nI W0)) 55 9 (nI (W0 - 3 ^ P.2.2.2.1))), (show am_D shC (d - 1) mi_X0_wayOf [.ref 12, .int (w.1 55 3), .int (w.1 55 10)] _ _ by rw [p2, q4, ← hl, ← ht]; exact call _ hw1), ?_⟩
              refine am_to (lv' := [(0, .ref 55), (4, .int 1), (5, .int (w.1 55 3))]) (st' := [.int (nI A)]) (w' := am_pi (am_pi (am_pi w 55 12 (-1)) 55 9 (nI W0)) 55 9 (nI (W0 - 3 ^ P.2.2.2.1))) rfl rfl rfl ?_
              iterate 22 (first | refine am_g0 rfl rfl ?_ | refine am_go rfl ?_)
              rw [hg, if_pos he, if_pos he]
              refine am_kl (d_gotail_55 (by omega) (hV.fr (fun a ha => ?_)) (c := q.1) hpl hcn rfl hway ?_) rfl
              · exact ((((((am_fr.rf.pi).pi).pi).pi).pi).pi (b := 55)).1 a (by omega)
              · refine ⟨rfl, ((((((((am_fr.rf.pi).pi).pi).pi).pi).pi).pi).pi), ⟨p1, p2, p3, p4, p5⟩, plc_free hV hcn hway hk1, rfl, rfl, ?_, ?_, ?_⟩
                · show w.1 55 10 + 1 = _
                  rw [q4, nI_1]
                · show w.1 55 11 + 0 = _
                  rw [q5]; exact Int32.add_zero _
                · show w.1 55 3 = _
                  rw [p2, ← hl]; rfl
            | false =>
              have he : ¬ s % 2 = 0 := fun z => by have := hev.mpr z; cases this
              rw [if_neg he] at hl ht
              refine am_top (y := 0) rfl ?_
              iterate 11 (first | refine am_g0 rfl rfl ?_ | refine am_go rfl ?_)
              refine am_ff (show ¬ w.1 12 3 ≤ w.1 55 4 by rw [hV.2.1, p3, ← hl]; exact nI_ge hm (by omega)) ?_
              iterate 8 (first | refine am_g0 rfl rfl ?_ | refine am_go rfl ?_)
              refine ⟨(some (.int (nI A)), am_pi (am_pi (am_pi w 55 12 (-1)) 55 9 (nI W0)) 55 9 (nI (W0 - 3 ^ P.2.2.2.1))), (show am_D shC (d - 1) mi_X0_wayOf [.ref 12, .int (w.1 55 4), .int (w.1 55 11)] _ _ by rw [p3, q5, ← hl, ← ht]; exact call _ hw1), ?_⟩
              refine am_to (lv' := [(0, .ref 55), (4, .int 0), (5, .int (w.1 55 4))]) (st' := [.int (nI A)]) (w' := am_pi (am_pi (am_pi w 55 12 (-1)) 55 9 (nI W0)) 55 9 (nI (W0 - 3 ^ P.2.2.2.1))) rfl rfl rfl ?_
              iterate 20 (first | refine am_g0 rfl rfl ?_ | refine am_go rfl ?_)
              rw [hg, if_neg he, if_neg he]
              refine am_kl (d_gotail_55 (by omega) (hV.fr (fun a ha => ?_)) (c := q.1) hpl hcn rfl hway ?_) rfl
              · exact ((((((am_fr.rf.pi).pi).pi).pi).pi).pi (b := 55)).1 a (by omega)
              · refine ⟨rfl, ((((((((am_fr.rf.pi).pi).pi).pi).pi).pi).pi).pi), ⟨p1, p2, p3, p4, p5⟩, plc_free hV hcn hway hk1, rfl, rfl, ?_, ?_, ?_⟩
                · show w.1 55 10 + 0 = _
                  rw [q4]; exact Int32.add_zero _
                · show w.1 55 11 + 1 = _
                  rw [q5, nI_1]
                · show w.1 55 4 = _
                  rw [p3, ← hl]; rfl
          · have hg : goS V P s r q = ((V.2.2.1 q.1 P.2.2.2.2, stOf (V.2.1 (V.2.2.1 q.1 P.2.2.2.2)), W0 - 3 ^ P.2.2.2.1, q.2.2.2.1, q.2.2.2.2), none) := by unfold goS; rw [if_neg (by omega), ← hW0, if_neg hw, ← hl, if_neg hm]
            have fin : ∀ lv, am_kill mi_X10_go 186 lv = [(0, .ref 55), (3, .int (w.1 55 6))] → am_R shC mi_X10_go (am_D shC (d - 1)) (fun o => o.1 = none ∧ am_fr 55 w o.2 ∧ wkP (o.2.1 55) P ∧ wkQ (o.2.1 55) (goS V P s r q).1 (goS V P s r q).2) 186 lv [] (am_pi (am_pi (am_pi w 55 12 (-1)) 55 9 (nI W0)) 55 9 (nI (W0 - 3 ^ P.2.2.2.1))) := by
              intro lv hlv
              rw [hg]
              refine am_kl (d_gotail_55 (by omega) (hV.fr (fun a ha => ?_)) (c := q.1) hpl hcn p5 b5 ?_) hlv
              · exact (((am_fr.rf.pi).pi).pi (b := 55)).1 a (by omega)
              · exact ⟨rfl, (((((am_fr.rf.pi).pi).pi).pi).pi), ⟨p1, p2, p3, p4, p5⟩, plc_free hV hcn b5 hk1, rfl, rfl, q4, q5, rfl⟩
            cases ev with
            | true =>
              have he : s % 2 = 0 := hev.mp rfl
              rw [if_pos he] at hl
              refine am_top (y := 1) rfl ?_
              iterate 12 (first | refine am_g0 rfl rfl ?_ | refine am_go rfl ?_)
              refine am_tt (show w.1 12 3 ≤ w.1 55 3 by rw [hV.2.1, p2, ← hl]; exact nI_le (by omega) (by omega)) ?_
              exact fin _ rfl
            | false =>
              have he : ¬ s % 2 = 0 := fun z => by have := hev.mpr z; cases this
              rw [if_neg he] at hl
              refine am_top (y := 0) rfl ?_
              iterate 11 (first | refine am_g0 rfl rfl ?_ | refine am_go rfl ?_)
              refine am_tt (show w.1 12 3 ≤ w.1 55 4 by rw [hV.2.1, p3, ← hl]; exact nI_le (by omega) (by omega)) ?_
              exact fin _ rfl
        iterate 4 (first | refine am_g0 rfl rfl ?_ | refine am_go rfl ?_)
        refine am_top (y := nI (s % 2)) (pk_rem (d := 2) (by omega) (by omega) (by omega)) ?_
        iterate 1 (first | refine am_g0 rfl rfl ?_ | refine am_go rfl ?_)
        by_cases he : s % 2 = 0
        · refine am_tt (show nI (s % 2) = 0 by rw [he]; rfl) ?_
          iterate 2 (first | refine am_g0 rfl rfl ?_ | refine am_go rfl ?_)
          exact am_kl (foot true _ _ ⟨fun _ => he, fun _ => rfl⟩ rfl rfl) rfl
        · refine am_ff (show ¬ nI (s % 2) = 0 from nI_ne0 (by omega) (by omega)) ?_
          iterate 1 (first | refine am_g0 rfl rfl ?_ | refine am_go rfl ?_)
          exact am_kl (foot false _ _ ⟨fun z => (Bool.false_ne_true z).elim, fun z => absurd z he⟩ rfl rfl) rfl
    cases r with
    | true =>
      iterate 8 (first | refine am_g0 rfl rfl ?_ | refine am_go rfl ?_)
      exact am_kl (key 0 rfl) rfl
    | false =>
      iterate 13 (first | refine am_g0 rfl rfl ?_ | refine am_go rfl ?_)
      refine am_top (y := nI (q.2.2.1 + 2 ^ P.2.2.2.1)) (show w.1 55 9 + (1 : Int32) <<< (w.1 55 5 &&& 31) = _ by rw [q3, p4, shl_one b4, nI_add]) ?_
      exact am_kl (key _ rfl) rfl
  · refine am_ff (show ¬ w.1 55 8 = 0 by rw [q2]; exact nI_ne0 (by omega) (by omega)) ?_
    iterate 1 (first | refine am_g0 rfl rfl ?_ | refine am_go rfl ?_)
    have hg : goS V P s r q = (q, none) := by unfold goS; rw [if_pos h0]
    rw [hg]
    exact ⟨rfl, rfl, am_fr.rf.pi, ⟨p1, p2, p3, p4, p5⟩, q1, q2, q3, q4, q5, rfl⟩
theorem d_gotail_56 {d : Nat} {V : Wd} {w : am_M} {c a : Nat} {x : Int32} {Φ : am_O → Prop} (hd : 1 ≤ d) (hV : cV w V) (hc : w.1 56 7 = nI c) (hcn : c < V.1) (hx : x = nI a) (ha : a < 4) (hΦ : Φ (none, am_pi (am_pi w 56 7 (nI (V.2.2.1 c a))) 56 8 (nI (stOf (V.2.1 (V.2.2.1 c a)))))) : am_R shC mi_X10_go (am_D shC d) Φ 186 [(0, .ref 56), (3, .int x)] [] w := by
  have hT := hV.1
  subst hx
  iterate 7 (first | refine am_g0 rfl rfl ?_ | refine am_go rfl ?_)
  rw [hc]
  refine ⟨(some (.int (nI (V.2.2.1 c a))), w), d_nextOf hd hT hcn ha, ?_⟩
  iterate 7 (first | refine am_g0 rfl rfl ?_ | refine am_go rfl ?_)
  refine ⟨(some (.int (nI (stOf (V.2.1 (V.2.2.1 c a))))), _), d_stateOn_t hd (hT.fr (fun b hb => am_pi_row (by omega))) ((hT.2.2.2 c hcn a ha).2.1), ?_⟩
  iterate 2 (first | refine am_g0 rfl rfl ?_ | refine am_go rfl ?_)
  exact ⟨rfl, hΦ⟩
set_option maxHeartbeats 8000000 in
theorem d_go_56 {d : Nat} {V : Wd} {P : Pr} {q : Qs} {b0 : Option Nat} {s : Nat} {r : Bool} {w : am_M} (hd : 2 ≤ d) (hV : cV w V) (hP : wkP (w.1 56) P) (hPb : Pok P) (hQ : wkQ (w.1 56) q b0) (hq : qok V P q s) (hs : s < 30) : ∃ o : am_O, (o.1 = none ∧ am_fr 56 w o.2 ∧ wkP (o.2.1 56) P ∧ wkQ (o.2.1 56) (goS V P s r q).1 (goS V P s r q).2) ∧ am_D shC d mi_X10_go [.ref 56, .int (nI s), .int (if r then 1 else 0)] w o := by
  obtain ⟨p1, p2, p3, p4, p5⟩ := hP
  obtain ⟨q1, q2, q3, q4, q5, q6⟩ := hQ
  obtain ⟨b1, b2, b3, b4, b5⟩ := hPb
  obtain ⟨qa, qb, qc, qd, qe⟩ := hq
  have hsol := pow_bd P.2.2.2.1 b4
  refine am_dex (by omega) rfl rfl ?_
  iterate 6 (first | refine am_g0 rfl rfl ?_ | refine am_go rfl ?_)
  by_cases h0 : q.2.1 = 0
  · refine am_tt (show w.1 56 8 = 0 by rw [q2, h0]; rfl) ?_
    have hpl : w.1 56 7 = nI q.1 := by rw [q1]; unfold plc; rw [if_neg (by omega)]
    have hcn : q.1 < V.1 := (qb (by omega)).1
    have hk1 : V.2.1 q.1 ≠ 1 := fun z => by
      have := (qb (by omega)).2
      rw [z, h0] at this
      exact absurd this (by decide)
    have h3 : ([1, 3, 9, 27, 81, 243] : List Int32).getD (w.1 56 5).toNatClampNeg 0 = nI (3 ^ P.2.2.2.1) := by rw [p4, nI_clamp (by omega), List.getD_eq_getElem?_getD, hsol.2.2.2]; rfl
    have h3b : ¬ (w.1 56 5 < 0 ∨ 6 ≤ (w.1 56 5).toNatClampNeg) := by rw [p4]; exact nI_in b4 (by decide)
    -- the weight that is put on
    have key : ∀ W0 : Nat, W0 = (if r then 0 else q.2.2.1 + 2 ^ P.2.2.2.1) → am_R shC mi_X10_go (am_D shC (d - 1)) (fun o => o.1 = none ∧ am_fr 56 w o.2 ∧ wkP (o.2.1 56) P ∧ wkQ (o.2.1 56) (goS V P s r q).1 (goS V P s r q).2) 38 [(0, .ref 56), (1, .int (nI s)), (3, .int (w.1 56 6))] [.int (nI W0), .ref 56] (am_pi w 56 12 (-1)) := by
      intro W0 hW0
      have hW1 : W0 < 1000 := by rw [hW0]; split <;> omega
      iterate 7 (first | refine am_g0 rfl rfl ?_ | refine am_go rfl ?_)
      refine am_ff h3b ?_
      refine am_top h3 ?_
      iterate 1 (first | refine am_g0 rfl rfl ?_ | refine am_go rfl ?_)
      by_cases hw : W0 < 3 ^ P.2.2.2.1
      · refine am_tt (show nI W0 < nI (3 ^ P.2.2.2.1) from nI_lt hw (by omega)) ?_
        have hg : goS V P s r q = ((V.2.2.1 q.1 P.2.2.2.2, stOf (V.2.1 (V.2.2.1 q.1 P.2.2.2.2)), W0, q.2.2.2.1, q.2.2.2.2), none) := by unfold goS; rw [if_neg (by omega), ← hW0, if_pos hw]
        rw [hg]
        refine am_kl (d_gotail_56 (by omega) (hV.fr (fun a ha => ?_)) (c := q.1) hpl hcn p5 b5 ?_) rfl
        · exact ((am_fr.rf.pi).pi (b := 56)).1 a (by omega)
        · exact ⟨rfl, ((((am_fr.rf.pi).pi).pi).pi), ⟨p1, p2, p3, p4, p5⟩, plc_free hV hcn b5 hk1, rfl, rfl, q4, q5, rfl⟩
      · refine am_ff (show ¬ nI W0 < nI (3 ^ P.2.2.2.1) from nI_nlt (by omega) (by omega)) ?_
        iterate 7 (first | refine am_g0 rfl rfl ?_ | refine am_go rfl ?_)
        refine am_ff h3b ?_
        refine am_top h3 ?_
        iterate 1 (first | refine am_g0 rfl rfl ?_ | refine am_go rfl ?_)
        refine am_top (y := nI (W0 - 3 ^ P.2.2.2.1)) (pk_sub (by omega)) ?_
        -- which foot
        have foot : ∀ (ev : Bool) (l t : Nat), (ev = true ↔ s % 2 = 0) → l = (if s % 2 = 0 then P.2.1 else P.2.2.1) → t = (if s % 2 = 0 then q.2.2.2.1 else q.2.2.2.2) → am_R shC mi_X10_go (am_D shC (d - 1)) (fun o => o.1 = none ∧ am_fr 56 w o.2 ∧ wkP (o.2.1 56) P ∧ wkQ (o.2.1 56) (goS V P s r q).1 (goS V P s r q).2) 84 [(0, .ref 56), (3, .int (w.1 56 6))] [.int (if ev then 1 else 0)] (am_pi (am_pi (am_pi w 56 12 (-1)) 56 9 (nI W0)) 56 9 (nI (W0 - 3 ^ P.2.2.2.1))) := by
          intro ev l t hev hl ht
          have hl8 : l < 8 := by rw [hl]; split <;> omega
          have ht30 : t ≤ s := by rw [ht]; split <;> omega
          have hlm : V.2.2.2.1 ≤ 8 := hV.2.2.1
          by_cases hm : l < V.2.2.2.1
          · have hlet := (hV.2.2.2 l hm).2.2.2.2.2 (t % V.2.2.2.2.2.1 l) (Nat.mod_lt _ (by have := (hV.2.2.2 l hm).2.2.2.1; omega))
            obtain ⟨A, hA⟩ : ∃ A, A = wayS (V.2.2.2.2.1 l) (V.2.2.2.2.2.1 l) (V.2.2.2.2.2.2 l) t := ⟨_, rfl⟩
            have hway : A < 4 := by rw [hA]; exact wayS_lt hlet.2
            have hg : goS V P s r q = ((V.2.2.1 q.1 A, stOf (V.2.1 (V.2.2.1 q.1 A)), W0 - 3 ^ P.2.2.2.1, q.2.2.2.1 + (if s % 2 = 0 then 1 else 0), q.2.2.2.2 + (if s % 2 = 0 then 0 else 1)), some l) := by unfold goS; rw [if_neg (by omega), ← hW0, if_neg hw, ← hl, ← ht, if_pos hm, ← hA]
            have call : ∀ w1 : am_M, (∀ a, a < 16 → w1.1 a = w.1 a) → am_D shC (d - 1) mi_X0_wayOf [.ref 12, .int (nI l), .int (nI t)] w1 (some (.int (nI A)), w1) := fun w1 h1 => by rw [hA]; exact d_wayOf (by omega) (hV.2.fr h1) hm (by omega)
            have hw1 : ∀ a, a < 16 → (am_pi (am_pi (am_pi w 56 12 (-1)) 56 9 (nI W0)) 56 9 (nI (W0 - 3 ^ P.2.2.2.1))).1 a = w.1 a := fun a ha => (((am_fr.rf.pi).pi).pi (b := 56)).1 a (by omega)
            cases ev with
            | true =>
              have he : s % 2 = 0 := hev.mp rfl
              rw [if_pos he] at hl ht
              refine am_top (y := 1) rfl ?_
              iterate 12 (first | refine am_g0 rfl rfl ?_ | refine am_go rfl ?_)
              refine am_ff (show ¬ w.1 12 3 ≤ w.1 56 3 by rw [hV.2.1, p2, ← hl]; exact nI_ge hm (by omega)) ?_
              iterate 9 (first | refine am_g0 rfl rfl ?_ | refine am_go rfl ?_)
              refine ⟨(some (.int (nI A)), am_pi (am_pi (am_pi w 56 12 (-1)) 56 9 (nI W0)) 56 9 (nI (W0 - 3 ^ P.2.2.2.1))), (show am_D shC (d - 1) mi_X0_wayOf [.ref 12, .int (w.1 56 3), .int (w.1 56 10)] _ _ by rw [p2, q4, ← hl, ← ht]; exact call _ hw1), ?_⟩
              refine am_to (lv' := [(0, .ref 56), (4, .int 1), (5, .int (w.1 56 3))]) (st' := [.int (nI A)]) (w' := am_pi (am_pi (am_pi w 56 12 (-1)) 56 9 (nI W0)) 56 9 (nI (W0 - 3 ^ P.2.2.2.1))) rfl rfl rfl ?_
              iterate 22 (first | refine am_g0 rfl rfl ?_ | refine am_go rfl ?_)
              rw [hg, if_pos he, if_pos he]
              refine am_kl (d_gotail_56 (by omega) (hV.fr (fun a ha => ?_)) (c := q.1) hpl hcn rfl hway ?_) rfl
              · exact ((((((am_fr.rf.pi).pi).pi).pi).pi).pi (b := 56)).1 a (by omega)
              · refine ⟨rfl, ((((((((am_fr.rf.pi).pi).pi).pi).pi).pi).pi).pi), ⟨p1, p2, p3, p4, p5⟩, plc_free hV hcn hway hk1, rfl, rfl, ?_, ?_, ?_⟩
                · show w.1 56 10 + 1 = _
                  rw [q4, nI_1]
                · show w.1 56 11 + 0 = _
                  rw [q5]; exact Int32.add_zero _
                · show w.1 56 3 = _
                  rw [p2, ← hl]; rfl
            | false =>
              have he : ¬ s % 2 = 0 := fun z => by have := hev.mpr z; cases this
              rw [if_neg he] at hl ht
              refine am_top (y := 0) rfl ?_
              iterate 11 (first | refine am_g0 rfl rfl ?_ | refine am_go rfl ?_)
              refine am_ff (show ¬ w.1 12 3 ≤ w.1 56 4 by rw [hV.2.1, p3, ← hl]; exact nI_ge hm (by omega)) ?_
              iterate 8 (first | refine am_g0 rfl rfl ?_ | refine am_go rfl ?_)
              refine ⟨(some (.int (nI A)), am_pi (am_pi (am_pi w 56 12 (-1)) 56 9 (nI W0)) 56 9 (nI (W0 - 3 ^ P.2.2.2.1))), (show am_D shC (d - 1) mi_X0_wayOf [.ref 12, .int (w.1 56 4), .int (w.1 56 11)] _ _ by rw [p3, q5, ← hl, ← ht]; exact call _ hw1), ?_⟩
              refine am_to (lv' := [(0, .ref 56), (4, .int 0), (5, .int (w.1 56 4))]) (st' := [.int (nI A)]) (w' := am_pi (am_pi (am_pi w 56 12 (-1)) 56 9 (nI W0)) 56 9 (nI (W0 - 3 ^ P.2.2.2.1))) rfl rfl rfl ?_
              iterate 20 (first | refine am_g0 rfl rfl ?_ | refine am_go rfl ?_)
              rw [hg, if_neg he, if_neg he]
              refine am_kl (d_gotail_56 (by omega) (hV.fr (fun a ha => ?_)) (c := q.1) hpl hcn rfl hway ?_) rfl
              · exact ((((((am_fr.rf.pi).pi).pi).pi).pi).pi (b := 56)).1 a (by omega)
              · refine ⟨rfl, ((((((((am_fr.rf.pi).pi).pi).pi).pi).pi).pi).pi), ⟨p1, p2, p3, p4, p5⟩, plc_free hV hcn hway hk1, rfl, rfl, ?_, ?_, ?_⟩
                · show w.1 56 10 + 0 = _
                  rw [q4]; exact Int32.add_zero _
                · show w.1 56 11 + 1 = _
                  rw [q5, nI_1]
                · show w.1 56 4 = _
                  rw [p3, ← hl]; rfl
          · have hg : goS V P s r q = ((V.2.2.1 q.1 P.2.2.2.2, stOf (V.2.1 (V.2.2.1 q.1 P.2.2.2.2)), W0 - 3 ^ P.2.2.2.1, q.2.2.2.1, q.2.2.2.2), none) := by unfold goS; rw [if_neg (by omega), ← hW0, if_neg hw, ← hl, if_neg hm]
            have fin : ∀ lv, am_kill mi_X10_go 186 lv = [(0, .ref 56), (3, .int (w.1 56 6))] → am_R shC mi_X10_go (am_D shC (d - 1)) (fun o => o.1 = none ∧ am_fr 56 w o.2 ∧ wkP (o.2.1 56) P ∧ wkQ (o.2.1 56) (goS V P s r q).1 (goS V P s r q).2) 186 lv [] (am_pi (am_pi (am_pi w 56 12 (-1)) 56 9 (nI W0)) 56 9 (nI (W0 - 3 ^ P.2.2.2.1))) := by
              intro lv hlv
              rw [hg]
              refine am_kl (d_gotail_56 (by omega) (hV.fr (fun a ha => ?_)) (c := q.1) hpl hcn p5 b5 ?_) hlv
              · exact (((am_fr.rf.pi).pi).pi (b := 56)).1 a (by omega)
              · exact ⟨rfl, (((((am_fr.rf.pi).pi).pi).pi).pi), ⟨p1, p2, p3, p4, p5⟩, plc_free hV hcn b5 hk1, rfl, rfl, q4, q5, rfl⟩
            cases ev with
            | true =>
              have he : s % 2 = 0 := hev.mp rfl
              rw [if_pos he] at hl
              refine am_top (y := 1) rfl ?_
              iterate 12 (first | refine am_g0 rfl rfl ?_ | refine am_go rfl ?_)
              refine am_tt (show w.1 12 3 ≤ w.1 56 3 by rw [hV.2.1, p2, ← hl]; exact nI_le (by omega) (by omega)) ?_
              exact fin _ rfl
            | false =>
              have he : ¬ s % 2 = 0 := fun z => by have := hev.mpr z; cases this
              rw [if_neg he] at hl
              refine am_top (y := 0) rfl ?_
              iterate 11 (first | refine am_g0 rfl rfl ?_ | refine am_go rfl ?_)
              refine am_tt (show w.1 12 3 ≤ w.1 56 4 by rw [hV.2.1, p3, ← hl]; exact nI_le (by omega) (by omega)) ?_
              exact fin _ rfl
        iterate 4 (first | refine am_g0 rfl rfl ?_ | refine am_go rfl ?_)
        refine am_top (y := nI (s % 2)) (pk_rem (d := 2) (by omega) (by omega) (by omega)) ?_
        iterate 1 (first | refine am_g0 rfl rfl ?_ | refine am_go rfl ?_)
        by_cases he : s % 2 = 0
        · refine am_tt (show nI (s % 2) = 0 by rw [he]; rfl) ?_
          iterate 2 (first | refine am_g0 rfl rfl ?_ | refine am_go rfl ?_)
          exact am_kl (foot true _ _ ⟨fun _ => he, fun _ => rfl⟩ rfl rfl) rfl
        · refine am_ff (show ¬ nI (s % 2) = 0 from nI_ne0 (by omega) (by omega)) ?_
          iterate 1 (first | refine am_g0 rfl rfl ?_ | refine am_go rfl ?_)
          exact am_kl (foot false _ _ ⟨fun z => (Bool.false_ne_true z).elim, fun z => absurd z he⟩ rfl rfl) rfl
    cases r with
    | true =>
      iterate 8 (first | refine am_g0 rfl rfl ?_ | refine am_go rfl ?_)
      exact am_kl (key 0 rfl) rfl
    | false =>
      iterate 13 (first | refine am_g0 rfl rfl ?_ | refine am_go rfl ?_)
      refine am_top (y := nI (q.2.2.1 + 2 ^ P.2.2.2.1)) (show w.1 56 9 + (1 : Int32) <<< (w.1 56 5 &&& 31) = _ by rw [q3, p4, shl_one b4, nI_add]) ?_
      exact am_kl (key _ rfl) rfl
  · refine am_ff (show ¬ w.1 56 8 = 0 by rw [q2]; exact nI_ne0 (by omega) (by omega)) ?_
    iterate 1 (first | refine am_g0 rfl rfl ?_ | refine am_go rfl ?_)
    have hg : goS V P s r q = (q, none) := by unfold goS; rw [if_pos h0]
    rw [hg]
    exact ⟨rfl, rfl, am_fr.rf.pi, ⟨p1, p2, p3, p4, p5⟩, q1, q2, q3, q4, q5, rfl⟩
theorem d_gotail_57 {d : Nat} {V : Wd} {w : am_M} {c a : Nat} {x : Int32} {Φ : am_O → Prop} (hd : 1 ≤ d) (hV : cV w V) (hc : w.1 57 7 = nI c) (hcn : c < V.1) (hx : x = nI a) (ha : a < 4) (hΦ : Φ (none, am_pi (am_pi w 57 7 (nI (V.2.2.1 c a))) 57 8 (nI (stOf (V.2.1 (V.2.2.1 c a)))))) : am_R shC mi_X10_go (am_D shC d) Φ 186 [(0, .ref 57), (3, .int x)] [] w := by
  have hT := hV.1
  subst hx
  iterate 7 (first | refine am_g0 rfl rfl ?_ | refine am_go rfl ?_)
  rw [hc]
  refine ⟨(some (.int (nI (V.2.2.1 c a))), w), d_nextOf hd hT hcn ha, ?_⟩
  iterate 7 (first | refine am_g0 rfl rfl ?_ | refine am_go rfl ?_)
  refine ⟨(some (.int (nI (stOf (V.2.1 (V.2.2.1 c a))))), _), d_stateOn_t hd (hT.fr (fun b hb => am_pi_row (by omega))) ((hT.2.2.2 c hcn a ha).2.1), ?_⟩
  iterate 2 (first | refine am_g0 rfl rfl ?_ | refine am_go rfl ?_)
  exact ⟨rfl, hΦ⟩
set_option maxHeartbeats 8000000 in
theorem d_go_57 {d : Nat} {V : Wd} {P : Pr} {q : Qs} {b0 : Option Nat} {s : Nat} {r : Bool} {w : am_M} (hd : 2 ≤ d) (hV : cV w V) (hP : wkP (w.1 57) P) (hPb : Pok P) (hQ : wkQ (w.1 57) q b0) (hq : qok V P q s) (hs : s < 30) : ∃ o : am_O, (o.1 = none ∧ am_fr 57 w o.2 ∧ wkP (o.2.1 57) P ∧ wkQ (o.2.1 57) (goS V P s r q).1 (goS V P s r q).2) ∧ am_D shC d mi_X10_go [.ref 57, .int (nI s), .int (if r then 1 else 0)] w o := by
  obtain ⟨p1, p2, p3, p4, p5⟩ := hP
  obtain ⟨q1, q2, q3, q4, q5, q6⟩ := hQ
  obtain ⟨b1, b2, b3, b4, b5⟩ := hPb
  obtain ⟨qa, qb, qc, qd, qe⟩ := hq
  have hsol := pow_bd P.2.2.2.1 b4
  refine am_dex (by omega) rfl rfl ?_
  iterate 6 (first | refine am_g0 rfl rfl ?_ | refine am_go rfl ?_)
  by_cases h0 : q.2.1 = 0
  · refine am_tt (show w.1 57 8 = 0 by rw [q2, h0]; rfl) ?_
    have hpl : w.1 57 7 = nI q.1 := by rw [q1]; unfold plc; rw [if_neg (by omega)]
    have hcn : q.1 < V.1 := (qb (by omega)).1
    have hk1 : V.2.1 q.1 ≠ 1 := fun z => by
      have := (qb (by omega)).2
      rw [z, h0] at this
      exact absurd this (by decide)
    have h3 : ([1, 3, 9, 27, 81, 243] : List Int32).getD (w.1 57 5).toNatClampNeg 0 = nI (3 ^ P.2.2.2.1) := by rw [p4, nI_clamp (by omega), List.getD_eq_getElem?_getD, hsol.2.2.2]; rfl
    have h3b : ¬ (w.1 57 5 < 0 ∨ 6 ≤ (w.1 57 5).toNatClampNeg) := by rw [p4]; exact nI_in b4 (by decide)
    -- the weight that is put on
    have key : ∀ W0 : Nat, W0 = (if r then 0 else q.2.2.1 + 2 ^ P.2.2.2.1) → am_R shC mi_X10_go (am_D shC (d - 1)) (fun o => o.1 = none ∧ am_fr 57 w o.2 ∧ wkP (o.2.1 57) P ∧ wkQ (o.2.1 57) (goS V P s r q).1 (goS V P s r q).2) 38 [(0, .ref 57), (1, .int (nI s)), (3, .int (w.1 57 6))] [.int (nI W0), .ref 57] (am_pi w 57 12 (-1)) := by
      intro W0 hW0
      have hW1 : W0 < 1000 := by rw [hW0]; split <;> omega
      iterate 7 (first | refine am_g0 rfl rfl ?_ | refine am_go rfl ?_)
      refine am_ff h3b ?_
      refine am_top h3 ?_
      iterate 1 (first | refine am_g0 rfl rfl ?_ | refine am_go rfl ?_)
      by_cases hw : W0 < 3 ^ P.2.2.2.1
      · refine am_tt (show nI W0 < nI (3 ^ P.2.2.2.1) from nI_lt hw (by omega)) ?_
        have hg : goS V P s r q = ((V.2.2.1 q.1 P.2.2.2.2, stOf (V.2.1 (V.2.2.1 q.1 P.2.2.2.2)), W0, q.2.2.2.1, q.2.2.2.2), none) := by unfold goS; rw [if_neg (by omega), ← hW0, if_pos hw]
        rw [hg]
        refine am_kl (d_gotail_57 (by omega) (hV.fr (fun a ha => ?_)) (c := q.1) hpl hcn p5 b5 ?_) rfl
        · exact ((am_fr.rf.pi).pi (b := 57)).1 a (by omega)
        · exact ⟨rfl, ((((am_fr.rf.pi).pi).pi).pi), ⟨p1, p2, p3, p4, p5⟩, plc_free hV hcn b5 hk1, rfl, rfl, q4, q5, rfl⟩
      · refine am_ff (show ¬ nI W0 < nI (3 ^ P.2.2.2.1) from nI_nlt (by omega) (by omega)) ?_
        iterate 7 (first | refine am_g0 rfl rfl ?_ | refine am_go rfl ?_)
        refine am_ff h3b ?_
        refine am_top h3 ?_
        iterate 1 (first | refine am_g0 rfl rfl ?_ | refine am_go rfl ?_)
        refine am_top (y := nI (W0 - 3 ^ P.2.2.2.1)) (pk_sub (by omega)) ?_
        -- which foot
        have foot : ∀ (ev : Bool) (l t : Nat), (ev = true ↔ s % 2 = 0) → l = (if s % 2 = 0 then P.2.1 else P.2.2.1) → t = (if s % 2 = 0 then q.2.2.2.1 else q.2.2.2.2) → am_R shC mi_X10_go (am_D shC (d - 1)) (fun o => o.1 = none ∧ am_fr 57 w o.2 ∧ wkP (o.2.1 57) P ∧ wkQ (o.2.1 57) (goS V P s r q).1 (goS V P s r q).2) 84 [(0, .ref 57), (3, .int (w.1 57 6))] [.int (if ev then 1 else 0)] (am_pi (am_pi (am_pi w 57 12 (-1)) 57 9 (nI W0)) 57 9 (nI (W0 - 3 ^ P.2.2.2.1))) := by
          intro ev l t hev hl ht
          have hl8 : l < 8 := by rw [hl]; split <;> omega
          have ht30 : t ≤ s := by rw [ht]; split <;> omega
          have hlm : V.2.2.2.1 ≤ 8 := hV.2.2.1
          by_cases hm : l < V.2.2.2.1
          · have hlet := (hV.2.2.2 l hm).2.2.2.2.2 (t % V.2.2.2.2.2.1 l) (Nat.mod_lt _ (by have := (hV.2.2.2 l hm).2.2.2.1; omega))
            obtain ⟨A, hA⟩ : ∃ A, A = wayS (V.2.2.2.2.1 l) (V.2.2.2.2.2.1 l) (V.2.2.2.2.2.2 l) t := ⟨_, rfl⟩
            have hway : A < 4 := by rw [hA]; exact wayS_lt hlet.2
            have hg : goS V P s r q = ((V.2.2.1 q.1 A, stOf (V.2.1 (V.2.2.1 q.1 A)), W0 - 3 ^ P.2.2.2.1, q.2.2.2.1 + (if s % 2 = 0 then 1 else 0), q.2.2.2.2 + (if s % 2 = 0 then 0 else 1)), some l) := by unfold goS; rw [if_neg (by omega), ← hW0, if_neg hw, ← hl, ← ht, if_pos hm, ← hA]
            have call : ∀ w1 : am_M, (∀ a, a < 16 → w1.1 a = w.1 a) → am_D shC (d - 1) mi_X0_wayOf [.ref 12, .int (nI l), .int (nI t)] w1 (some (.int (nI A)), w1) := fun w1 h1 => by rw [hA]; exact d_wayOf (by omega) (hV.2.fr h1) hm (by omega)
            have hw1 : ∀ a, a < 16 → (am_pi (am_pi (am_pi w 57 12 (-1)) 57 9 (nI W0)) 57 9 (nI (W0 - 3 ^ P.2.2.2.1))).1 a = w.1 a := fun a ha => (((am_fr.rf.pi).pi).pi (b := 57)).1 a (by omega)
            cases ev with
            | true =>
              have he : s % 2 = 0 := hev.mp rfl
              rw [if_pos he] at hl ht
              refine am_top (y := 1) rfl ?_
              iterate 12 (first | refine am_g0 rfl rfl ?_ | refine am_go rfl ?_)
              refine am_ff (show ¬ w.1 12 3 ≤ w.1 57 3 by rw [hV.2.1, p2, ← hl]; exact nI_ge hm (by omega)) ?_
              iterate 9 (first | refine am_g0 rfl rfl ?_ | refine am_go rfl ?_)
              refine ⟨(some (.int (nI A)), am_pi (am_pi (am_pi w 57 12 (-1)) 57 9 (nI W0)) 57 9 (nI (W0 - 3 ^ P.2.2.2.1))), (show am_D shC (d - 1) mi_X0_wayOf [.ref 12, .int (w.1 57 3), .int (w.1 57 10)] _ _ by rw [p2, q4, ← hl, ← ht]; exact call _ hw1), ?_⟩
              refine am_to (lv' := [(0, .ref 57), (4, .int 1), (5, .int (w.1 57 3))]) (st' := [.int (nI A)]) (w' := am_pi (am_pi (am_pi w 57 12 (-1)) 57 9 (nI W0)) 57 9 (nI (W0 - 3 ^ P.2.2.2.1))) rfl rfl rfl ?_
              iterate 22 (first | refine am_g0 rfl rfl ?_ | refine am_go rfl ?_)
              rw [hg, if_pos he, if_pos he]
              refine am_kl (d_gotail_57 (by omega) (hV.fr (fun a ha => ?_)) (c := q.1) hpl hcn rfl hway ?_) rfl
              · exact ((((((am_fr.rf.pi).pi).pi).pi).pi).pi (b := 57)).1 a (by omega)
              · refine ⟨rfl, ((((((((am_fr.rf.pi).pi).pi).pi).pi).pi).pi).pi), ⟨p1, p2, p3, p4, p5⟩, plc_free hV hcn hway hk1, rfl, rfl, ?_, ?_, ?_⟩
                · show w.1 57 10 + 1 = _
                  rw [q4, nI_1]
                · show w.1 57 11 + 0 = _
                  rw [q5]; exact Int32.add_zero _
                · show w.1 57 3 = _
                  rw [p2, ← hl]; rfl
            | false =>
              have he : ¬ s % 2 = 0 := fun z => by have := hev.mpr z; cases this
              rw [if_neg he] at hl ht
              refine am_top (y := 0) rfl ?_
              iterate 11 (first | refine am_g0 rfl rfl ?_ | refine am_go rfl ?_)
              refine am_ff (show ¬ w.1 12 3 ≤ w.1 57 4 by rw [hV.2.1, p3, ← hl]; exact nI_ge hm (by omega)) ?_
              iterate 8 (first | refine am_g0 rfl rfl ?_ | refine am_go rfl ?_)
              refine ⟨(some (.int (nI A)), am_pi (am_pi (am_pi w 57 12 (-1)) 57 9 (nI W0)) 57 9 (nI (W0 - 3 ^ P.2.2.2.1))), (show am_D shC (d - 1) mi_X0_wayOf [.ref 12, .int (w.1 57 4), .int (w.1 57 11)] _ _ by rw [p3, q5, ← hl, ← ht]; exact call _ hw1), ?_⟩
              refine am_to (lv' := [(0, .ref 57), (4, .int 0), (5, .int (w.1 57 4))]) (st' := [.int (nI A)]) (w' := am_pi (am_pi (am_pi w 57 12 (-1)) 57 9 (nI W0)) 57 9 (nI (W0 - 3 ^ P.2.2.2.1))) rfl rfl rfl ?_
              iterate 20 (first | refine am_g0 rfl rfl ?_ | refine am_go rfl ?_)
              rw [hg, if_neg he, if_neg he]
              refine am_kl (d_gotail_57 (by omega) (hV.fr (fun a ha => ?_)) (c := q.1) hpl hcn rfl hway ?_) rfl
              · exact ((((((am_fr.rf.pi).pi).pi).pi).pi).pi (b := 57)).1 a (by omega)
              · refine ⟨rfl, ((((((((am_fr.rf.pi).pi).pi).pi).pi).pi).pi).pi), ⟨p1, p2, p3, p4, p5⟩, plc_free hV hcn hway hk1, rfl, rfl, ?_, ?_, ?_⟩
                · show w.1 57 10 + 0 = _
                  rw [q4]; exact Int32.add_zero _
                · show w.1 57 11 + 1 = _
                  rw [q5, nI_1]
                · show w.1 57 4 = _
                  rw [p3, ← hl]; rfl
          · have hg : goS V P s r q = ((V.2.2.1 q.1 P.2.2.2.2, stOf (V.2.1 (V.2.2.1 q.1 P.2.2.2.2)), W0 - 3 ^ P.2.2.2.1, q.2.2.2.1, q.2.2.2.2), none) := by unfold goS; rw [if_neg (by omega), ← hW0, if_neg hw, ← hl, if_neg hm]
            have fin : ∀ lv, am_kill mi_X10_go 186 lv = [(0, .ref 57), (3, .int (w.1 57 6))] → am_R shC mi_X10_go (am_D shC (d - 1)) (fun o => o.1 = none ∧ am_fr 57 w o.2 ∧ wkP (o.2.1 57) P ∧ wkQ (o.2.1 57) (goS V P s r q).1 (goS V P s r q).2) 186 lv [] (am_pi (am_pi (am_pi w 57 12 (-1)) 57 9 (nI W0)) 57 9 (nI (W0 - 3 ^ P.2.2.2.1))) := by
              intro lv hlv
              rw [hg]
              refine am_kl (d_gotail_57 (by omega) (hV.fr (fun a ha => ?_)) (c := q.1) hpl hcn p5 b5 ?_) hlv
              · exact (((am_fr.rf.pi).pi).pi (b := 57)).1 a (by omega)
              · exact ⟨rfl, (((((am_fr.rf.pi).pi).pi).pi).pi), ⟨p1, p2, p3, p4, p5⟩, plc_free hV hcn b5 hk1, rfl, rfl, q4, q5, rfl⟩
            cases ev with
            | true =>
              have he : s % 2 = 0 := hev.mp rfl
              rw [if_pos he] at hl
              refine am_top (y := 1) rfl ?_
              iterate 12 (first | refine am_g0 rfl rfl ?_ | refine am_go rfl ?_)
              refine am_tt (show w.1 12 3 ≤ w.1 57 3 by rw [hV.2.1, p2, ← hl]; exact nI_le (by omega) (by omega)) ?_
              exact fin _ rfl
            | false =>
              have he : ¬ s % 2 = 0 := fun z => by have := hev.mpr z; cases this
              rw [if_neg he] at hl
              refine am_top (y := 0) rfl ?_
              iterate 11 (first | refine am_g0 rfl rfl ?_ | refine am_go rfl ?_)
              refine am_tt (show w.1 12 3 ≤ w.1 57 4 by rw [hV.2.1, p3, ← hl]; exact nI_le (by omega) (by omega)) ?_
              exact fin _ rfl
        iterate 4 (first | refine am_g0 rfl rfl ?_ | refine am_go rfl ?_)
        refine am_top (y := nI (s % 2)) (pk_rem (d := 2) (by omega) (by omega) (by omega)) ?_
        iterate 1 (first | refine am_g0 rfl rfl ?_ | refine am_go rfl ?_)
        by_cases he : s % 2 = 0
        · refine am_tt (show nI (s % 2) = 0 by rw [he]; rfl) ?_
          iterate 2 (first | refine am_g0 rfl rfl ?_ | refine am_go rfl ?_)
          exact am_kl (foot true _ _ ⟨fun _ => he, fun _ => rfl⟩ rfl rfl) rfl
        · refine am_ff (show ¬ nI (s % 2) = 0 from nI_ne0 (by omega) (by omega)) ?_
          iterate 1 (first | refine am_g0 rfl rfl ?_ | refine am_go rfl ?_)
          exact am_kl (foot false _ _ ⟨fun z => (Bool.false_ne_true z).elim, fun z => absurd z he⟩ rfl rfl) rfl
    cases r with
    | true =>
      iterate 8 (first | refine am_g0 rfl rfl ?_ | refine am_go rfl ?_)
      exact am_kl (key 0 rfl) rfl
    | false =>
      iterate 13 (first | refine am_g0 rfl rfl ?_ | refine am_go rfl ?_)
      refine am_top (y := nI (q.2.2.1 + 2 ^ P.2.2.2.1)) (show w.1 57 9 + (1 : Int32) <<< (w.1 57 5 &&& 31) = _ by rw [q3, p4, shl_one b4, nI_add]) ?_
      exact am_kl (key _ rfl) rfl
  · refine am_ff (show ¬ w.1 57 8 = 0 by rw [q2]; exact nI_ne0 (by omega) (by omega)) ?_
    iterate 1 (first | refine am_g0 rfl rfl ?_ | refine am_go rfl ?_)
    have hg : goS V P s r q = (q, none) := by unfold goS; rw [if_pos h0]
    rw [hg]
    exact ⟨rfl, rfl, am_fr.rf.pi, ⟨p1, p2, p3, p4, p5⟩, q1, q2, q3, q4, q5, rfl⟩
theorem d_gotail_58 {d : Nat} {V : Wd} {w : am_M} {c a : Nat} {x : Int32} {Φ : am_O → Prop} (hd : 1 ≤ d) (hV : cV w V) (hc : w.1 58 7 = nI c) (hcn : c < V.1) (hx : x = nI a) (ha : a < 4) (hΦ : Φ (none, am_pi (am_pi w 58 7 (nI (V.2.2.1 c a))) 58 8 (nI (stOf (V.2.1 (V.2.2.1 c a)))))) : am_R shC mi_X10_go (am_D shC d) Φ 186 [(0, .ref 58), (3, .int x)] [] w := by
  have hT := hV.1
  subst hx
  iterate 7 (first | refine am_g0 rfl rfl ?_ | refine am_go rfl ?_)
  rw [hc]
  refine ⟨(some (.int (nI (V.2.2.1 c a))), w), d_nextOf hd hT hcn ha, ?_⟩
  iterate 7 (first | refine am_g0 rfl rfl ?_ | refine am_go rfl ?_)
  refine ⟨(some (.int (nI (stOf (V.2.1 (V.2.2.1 c a))))), _), d_stateOn_t hd (hT.fr (fun b hb => am_pi_row (by omega))) ((hT.2.2.2 c hcn a ha).2.1), ?_⟩
  iterate 2 (first | refine am_g0 rfl rfl ?_ | refine am_go rfl ?_)
  exact ⟨rfl, hΦ⟩
set_option maxHeartbeats 8000000 in
theorem d_go_58 {d : Nat} {V : Wd} {P : Pr} {q : Qs} {b0 : Option Nat} {s : Nat} {r : Bool} {w : am_M} (hd : 2 ≤ d) (hV : cV w V) (hP : wkP (w.1 58) P) (hPb : Pok P) (hQ : wkQ (w.1 58) q b0) (hq : qok V P q s) (hs : s < 30) : ∃ o : am_O, (o.1 = none ∧ am_fr 58 w o.2 ∧ wkP (o.2.1 58) P ∧ wkQ (o.2.1 58) (goS V P s r q).1 (goS V P s r q).2) ∧ am_D shC d mi_X10_go [.ref 58, .int (nI s), .int (if r then 1 else 0)] w o := by
  obtain ⟨p1, p2, p3, p4, p5⟩ := hP
  obtain ⟨q1, q2, q3, q4, q5, q6⟩ := hQ
  obtain ⟨b1, b2, b3, b4, b5⟩ := hPb
  obtain ⟨qa, qb, qc, qd, qe⟩ := hq
  have hsol := pow_bd P.2.2.2.1 b4
  refine am_dex (by omega) rfl rfl ?_
  iterate 6 (first | refine am_g0 rfl rfl ?_ | refine am_go rfl ?_)
  by_cases h0 : q.2.1 = 0
  · refine am_tt (show w.1 58 8 = 0 by rw [q2, h0]; rfl) ?_
    have hpl : w.1 58 7 = nI q.1 := by rw [q1]; unfold plc; rw [if_neg (by omega)]
    have hcn : q.1 < V.1 := (qb (by omega)).1
    have hk1 : V.2.1 q.1 ≠ 1 := fun z => by
      have := (qb (by omega)).2
      rw [z, h0] at this
      exact absurd this (by decide)
    have h3 : ([1, 3, 9, 27, 81, 243] : List Int32).getD (w.1 58 5).toNatClampNeg 0 = nI (3 ^ P.2.2.2.1) := by rw [p4, nI_clamp (by omega), List.getD_eq_getElem?_getD, hsol.2.2.2]; rfl
    have h3b : ¬ (w.1 58 5 < 0 ∨ 6 ≤ (w.1 58 5).toNatClampNeg) := by rw [p4]; exact nI_in b4 (by decide)
    -- the weight that is put on
    have key : ∀ W0 : Nat, W0 = (if r then 0 else q.2.2.1 + 2 ^ P.2.2.2.1) → am_R shC mi_X10_go (am_D shC (d - 1)) (fun o => o.1 = none ∧ am_fr 58 w o.2 ∧ wkP (o.2.1 58) P ∧ wkQ (o.2.1 58) (goS V P s r q).1 (goS V P s r q).2) 38 [(0, .ref 58), (1, .int (nI s)), (3, .int (w.1 58 6))] [.int (nI W0), .ref 58] (am_pi w 58 12 (-1)) := by
      intro W0 hW0
      have hW1 : W0 < 1000 := by rw [hW0]; split <;> omega
      iterate 7 (first | refine am_g0 rfl rfl ?_ | refine am_go rfl ?_)
      refine am_ff h3b ?_
      refine am_top h3 ?_
      iterate 1 (first | refine am_g0 rfl rfl ?_ | refine am_go rfl ?_)
      by_cases hw : W0 < 3 ^ P.2.2.2.1
      · refine am_tt (show nI W0 < nI (3 ^ P.2.2.2.1) from nI_lt hw (by omega)) ?_
        have hg : goS V P s r q = ((V.2.2.1 q.1 P.2.2.2.2, stOf (V.2.1 (V.2.2.1 q.1 P.2.2.2.2)), W0, q.2.2.2.1, q.2.2.2.2), none) := by unfold goS; rw [if_neg (by omega), ← hW0, if_pos hw]
        rw [hg]
        refine am_kl (d_gotail_58 (by omega) (hV.fr (fun a ha => ?_)) (c := q.1) hpl hcn p5 b5 ?_) rfl
        · exact ((am_fr.rf.pi).pi (b := 58)).1 a (by omega)
        · exact ⟨rfl, ((((am_fr.rf.pi).pi).pi).pi), ⟨p1, p2, p3, p4, p5⟩, plc_free hV hcn b5 hk1, rfl, rfl, q4, q5, rfl⟩
      · refine am_ff (show ¬ nI W0 < nI (3 ^ P.2.2.2.1) from nI_nlt (by omega) (by omega)) ?_
        iterate 7 (first | refine am_g0 rfl rfl ?_ | refine am_go rfl ?_)
        refine am_ff h3b ?_
        refine am_top h3 ?_
        iterate 1 (first | refine am_g0 rfl rfl ?_ | refine am_go rfl ?_)
        refine am_top (y := nI (W0 - 3 ^ P.2.2.2.1)) (pk_sub (by omega)) ?_
        -- which foot
        have foot : ∀ (ev : Bool) (l t : Nat), (ev = true ↔ s % 2 = 0) → l = (if s % 2 = 0 then P.2.1 else P.2.2.1) → t = (if s % 2 = 0 then q.2.2.2.1 else q.2.2.2.2) → am_R shC mi_X10_go (am_D shC (d - 1)) (fun o => o.1 = none ∧ am_fr 58 w o.2 ∧ wkP (o.2.1 58) P ∧ wkQ (o.2.1 58) (goS V P s r q).1 (goS V P s r q).2) 84 [(0, .ref 58), (3, .int (w.1 58 6))] [.int (if ev then 1 else 0)] (am_pi (am_pi (am_pi w 58 12 (-1)) 58 9 (nI W0)) 58 9 (nI (W0 - 3 ^ P.2.2.2.1))) := by
          intro ev l t hev hl ht
          have hl8 : l < 8 := by rw [hl]; split <;> omega
          have ht30 : t ≤ s := by rw [ht]; split <;> omega
          have hlm : V.2.2.2.1 ≤ 8 := hV.2.2.1
          by_cases hm : l < V.2.2.2.1
          · have hlet := (hV.2.2.2 l hm).2.2.2.2.2 (t % V.2.2.2.2.2.1 l) (Nat.mod_lt _ (by have := (hV.2.2.2 l hm).2.2.2.1; omega))
            obtain ⟨A, hA⟩ : ∃ A, A = wayS (V.2.2.2.2.1 l) (V.2.2.2.2.2.1 l) (V.2.2.2.2.2.2 l) t := ⟨_, rfl⟩
            have hway : A < 4 := by rw [hA]; exact wayS_lt hlet.2
            have hg : goS V P s r q = ((V.2.2.1 q.1 A, stOf (V.2.1 (V.2.2.1 q.1 A)), W0 - 3 ^ P.2.2.2.1, q.2.2.2.1 + (if s % 2 = 0 then 1 else 0), q.2.2.2.2 + (if s % 2 = 0 then 0 else 1)), some l) := by unfold goS; rw [if_neg (by omega), ← hW0, if_neg hw, ← hl, ← ht, if_pos hm, ← hA]
            have call : ∀ w1 : am_M, (∀ a, a < 16 → w1.1 a = w.1 a) → am_D shC (d - 1) mi_X0_wayOf [.ref 12, .int (nI l), .int (nI t)] w1 (some (.int (nI A)), w1) := fun w1 h1 => by rw [hA]; exact d_wayOf (by omega) (hV.2.fr h1) hm (by omega)
            have hw1 : ∀ a, a < 16 → (am_pi (am_pi (am_pi w 58 12 (-1)) 58 9 (nI W0)) 58 9 (nI (W0 - 3 ^ P.2.2.2.1))).1 a = w.1 a := fun a ha => (((am_fr.rf.pi).pi).pi (b := 58)).1 a (by omega)
            cases ev with
            | true =>
              have he : s % 2 = 0 := hev.mp rfl
              rw [if_pos he] at hl ht
              refine am_top (y := 1) rfl ?_
              iterate 12 (first | refine am_g0 rfl rfl ?_ | refine am_go rfl ?_)
              refine am_ff (show ¬ w.1 12 3 ≤ w.1 58 3 by rw [hV.2.1, p2, ← hl]; exact nI_ge hm (by omega)) ?_
              iterate 9 (first | refine am_g0 rfl rfl ?_ | refine am_go rfl ?_)
              refine ⟨(some (.int (nI A)), am_pi (am_pi (am_pi w 58 12 (-1)) 58 9 (nI W0)) 58 9 (nI (W0 - 3 ^ P.2.2.2.1))), (show am_D shC (d - 1) mi_X0_wayOf [.ref 12, .int (w.1 58 3), .int (w.1 58 10)] _ _ by rw [p2, q4, ← hl, ← ht]; exact call _ hw1), ?_⟩
              refine am_to (lv' := [(0, .ref 58), (4, .int 1), (5, .int (w.1 58 3))]) (st' := [.int (nI A)]) (w' := am_pi (am_pi (am_pi w 58 12 (-1)) 58 9 (nI W0)) 58 9 (nI (W0 - 3 ^ P.2.2.2.1))) rfl rfl rfl ?_
              iterate 22 (first | refine am_g0 rfl rfl ?_ | refine am_go rfl ?_)
              rw [hg, if_pos he, if_pos he]
              refine am_kl (d_gotail_58 (by omega) (hV.fr (fun a ha => ?_)) (c := q.1) hpl hcn rfl hway ?_) rfl
              · exact ((((((am_fr.rf.pi).pi).pi).pi).pi).pi (b := 58)).1 a (by omega)
              · refine ⟨rfl, ((((((((am_fr.rf.pi).pi).pi).pi).pi).pi).pi).pi), ⟨p1, p2, p3, p4, p5⟩, plc_free hV hcn hway hk1, rfl, rfl, ?_, ?_, ?_⟩
                · show w.1 58 10 + 1 = _
                  rw [q4, nI_1]
                · show w.1 58 11 + 0 = _
                  rw [q5]; exact Int32.add_zero _
                · show w.1 58 3 = _
                  rw [p2, ← hl]; rfl
            | false =>
              have he : ¬ s % 2 = 0 := fun z => by have := hev.mpr z; cases this
              rw [if_neg he] at hl ht
              refine am_top (y := 0) rfl ?_
              iterate 11 (first | refine am_g0 rfl rfl ?_ | refine am_go rfl ?_)
              refine am_ff (show ¬ w.1 12 3 ≤ w.1 58 4 by rw [hV.2.1, p3, ← hl]; exact nI_ge hm (by omega)) ?_
              iterate 8 (first | refine am_g0 rfl rfl ?_ | refine am_go rfl ?_)
              refine ⟨(some (.int (nI A)), am_pi (am_pi (am_pi w 58 12 (-1)) 58 9 (nI W0)) 58 9 (nI (W0 - 3 ^ P.2.2.2.1))), (show am_D shC (d - 1) mi_X0_wayOf [.ref 12, .int (w.1 58 4), .int (w.1 58 11)] _ _ by rw [p3, q5, ← hl, ← ht]; exact call _ hw1), ?_⟩
              refine am_to (lv' := [(0, .ref 58), (4, .int 0), (5, .int (w.1 58 4))]) (st' := [.int (nI A)]) (w' := am_pi (am_pi (am_pi w 58 12 (-1)) 58 9 (nI W0)) 58 9 (nI (W0 - 3 ^ P.2.2.2.1))) rfl rfl rfl ?_
              iterate 20 (first | refine am_g0 rfl rfl ?_ | refine am_go rfl ?_)
              rw [hg, if_neg he, if_neg he]
              refine am_kl (d_gotail_58 (by omega) (hV.fr (fun a ha => ?_)) (c := q.1) hpl hcn rfl hway ?_) rfl
              · exact ((((((am_fr.rf.pi).pi).pi).pi).pi).pi (b := 58)).1 a (by omega)
              · refine ⟨rfl, ((((((((am_fr.rf.pi).pi).pi).pi).pi).pi).pi).pi), ⟨p1, p2, p3, p4, p5⟩, plc_free hV hcn hway hk1, rfl, rfl, ?_, ?_, ?_⟩
                · show w.1 58 10 + 0 = _
                  rw [q4]; exact Int32.add_zero _
                · show w.1 58 11 + 1 = _
                  rw [q5, nI_1]
                · show w.1 58 4 = _
                  rw [p3, ← hl]; rfl
          · have hg : goS V P s r q = ((V.2.2.1 q.1 P.2.2.2.2, stOf (V.2.1 (V.2.2.1 q.1 P.2.2.2.2)), W0 - 3 ^ P.2.2.2.1, q.2.2.2.1, q.2.2.2.2), none) := by unfold goS; rw [if_neg (by omega), ← hW0, if_neg hw, ← hl, if_neg hm]
            have fin : ∀ lv, am_kill mi_X10_go 186 lv = [(0, .ref 58), (3, .int (w.1 58 6))] → am_R shC mi_X10_go (am_D shC (d - 1)) (fun o => o.1 = none ∧ am_fr 58 w o.2 ∧ wkP (o.2.1 58) P ∧ wkQ (o.2.1 58) (goS V P s r q).1 (goS V P s r q).2) 186 lv [] (am_pi (am_pi (am_pi w 58 12 (-1)) 58 9 (nI W0)) 58 9 (nI (W0 - 3 ^ P.2.2.2.1))) := by
              intro lv hlv
              rw [hg]
              refine am_kl (d_gotail_58 (by omega) (hV.fr (fun a ha => ?_)) (c := q.1) hpl hcn p5 b5 ?_) hlv
              · exact (((am_fr.rf.pi).pi).pi (b := 58)).1 a (by omega)
              · exact ⟨rfl, (((((am_fr.rf.pi).pi).pi).pi).pi), ⟨p1, p2, p3, p4, p5⟩, plc_free hV hcn b5 hk1, rfl, rfl, q4, q5, rfl⟩
            cases ev with
            | true =>
              have he : s % 2 = 0 := hev.mp rfl
              rw [if_pos he] at hl
              refine am_top (y := 1) rfl ?_
              iterate 12 (first | refine am_g0 rfl rfl ?_ | refine am_go rfl ?_)
              refine am_tt (show w.1 12 3 ≤ w.1 58 3 by rw [hV.2.1, p2, ← hl]; exact nI_le (by omega) (by omega)) ?_
              exact fin _ rfl
            | false =>
              have he : ¬ s % 2 = 0 := fun z => by have := hev.mpr z; cases this
              rw [if_neg he] at hl
              refine am_top (y := 0) rfl ?_
              iterate 11 (first | refine am_g0 rfl rfl ?_ | refine am_go rfl ?_)
              refine am_tt (show w.1 12 3 ≤ w.1 58 4 by rw [hV.2.1, p3, ← hl]; exact nI_le (by omega) (by omega)) ?_
              exact fin _ rfl
        iterate 4 (first | refine am_g0 rfl rfl ?_ | refine am_go rfl ?_)
        refine am_top (y := nI (s % 2)) (pk_rem (d := 2) (by omega) (by omega) (by omega)) ?_
        iterate 1 (first | refine am_g0 rfl rfl ?_ | refine am_go rfl ?_)
        by_cases he : s % 2 = 0
        · refine am_tt (show nI (s % 2) = 0 by rw [he]; rfl) ?_
          iterate 2 (first | refine am_g0 rfl rfl ?_ | refine am_go rfl ?_)
          exact am_kl (foot true _ _ ⟨fun _ => he, fun _ => rfl⟩ rfl rfl) rfl
        · refine am_ff (show ¬ nI (s % 2) = 0 from nI_ne0 (by omega) (by omega)) ?_
          iterate 1 (first | refine am_g0 rfl rfl ?_ | refine am_go rfl ?_)
          exact am_kl (foot false _ _ ⟨fun z => (Bool.false_ne_true z).elim, fun z => absurd z he⟩ rfl rfl) rfl
    cases r with
    | true =>
      iterate 8 (first | refine am_g0 rfl rfl ?_ | refine am_go rfl ?_)
      exact am_kl (key 0 rfl) rfl
    | false =>
      iterate 13 (first | refine am_g0 rfl rfl ?_ | refine am_go rfl ?_)
      refine am_top (y := nI (q.2.2.1 + 2 ^ P.2.2.2.1)) (show w.1 58 9 + (1 : Int32) <<< (w.1 58 5 &&& 31) = _ by rw [q3, p4, shl_one b4, nI_add]) ?_
      exact am_kl (key _ rfl) rfl
  · refine am_ff (show ¬ w.1 58 8 = 0 by rw [q2]; exact nI_ne0 (by omega) (by omega)) ?_
    iterate 1 (first | refine am_g0 rfl rfl ?_ | refine am_go rfl ?_)
    have hg : goS V P s r q = (q, none) := by unfold goS; rw [if_pos h0]
    rw [hg]
    exact ⟨rfl, rfl, am_fr.rf.pi, ⟨p1, p2, p3, p4, p5⟩, q1, q2, q3, q4, q5, rfl⟩
theorem d_gotail_59 {d : Nat} {V : Wd} {w : am_M} {c a : Nat} {x : Int32} {Φ : am_O → Prop} (hd : 1 ≤ d) (hV : cV w V) (hc : w.1 59 7 = nI c) (hcn : c < V.1) (hx : x = nI a) (ha : a < 4) (hΦ : Φ (none, am_pi (am_pi w 59 7 (nI (V.2.2.1 c a))) 59 8 (nI (stOf (V.2.1 (V.2.2.1 c a)))))) : am_R shC mi_X10_go (am_D shC d) Φ 186 [(0, .ref 59), (3, .int x)] [] w := by
  have hT := hV.1
  subst hx
  iterate 7 (first | refine am_g0 rfl rfl ?_ | refine am_go rfl ?_)
  rw [hc]
  refine ⟨(some (.int (nI (V.2.2.1 c a))), w), d_nextOf hd hT hcn ha, ?_⟩
  iterate 7 (first | refine am_g0 rfl rfl ?_ | refine am_go rfl ?_)
  refine ⟨(some (.int (nI (stOf (V.2.1 (V.2.2.1 c a))))), _), d_stateOn_t hd (hT.fr (fun b hb => am_pi_row (by omega))) ((hT.2.2.2 c hcn a ha).2.1), ?_⟩
  iterate 2 (first | refine am_g0 rfl rfl ?_ | refine am_go rfl ?_)
  exact ⟨rfl, hΦ⟩
set_option maxHeartbeats 8000000 in
theorem d_go_59 {d : Nat} {V : Wd} {P : Pr} {q : Qs} {b0 : Option Nat} {s : Nat} {r : Bool} {w : am_M} (hd : 2 ≤ d) (hV : cV w V) (hP : wkP (w.1 59) P) (hPb : Pok P) (hQ : wkQ (w.1 59) q b0) (hq : qok V P q s) (hs : s < 30) : ∃ o : am_O, (o.1 = none ∧ am_fr 59 w o.2 ∧ wkP (o.2.1 59) P ∧ wkQ (o.2.1 59) (goS V P s r q).1 (goS V P s r q).2) ∧ am_D shC d mi_X10_go [.ref 59, .int (nI s), .int (if r then 1 else 0)] w o := by
  obtain ⟨p1, p2, p3, p4, p5⟩ := hP
  obtain ⟨q1, q2, q3, q4, q5, q6⟩ := hQ
  obtain ⟨b1, b2, b3, b4, b5⟩ := hPb
  obtain ⟨qa, qb, qc, qd, qe⟩ := hq
  have hsol := pow_bd P.2.2.2.1 b4
  refine am_dex (by omega) rfl rfl ?_
  iterate 6 (first | refine am_g0 rfl rfl ?_ | refine am_go rfl ?_)
  by_cases h0 : q.2.1 = 0
  · refine am_tt (show w.1 59 8 = 0 by rw [q2, h0]; rfl) ?_
    have hpl : w.1 59 7 = nI q.1 := by rw [q1]; unfold plc; rw [if_neg (by omega)]
    have hcn : q.1 < V.1 := (qb (by omega)).1
    have hk1 : V.2.1 q.1 ≠ 1 := fun z => by
      have := (qb (by omega)).2
      rw [z, h0] at this
      exact absurd this (by decide)
    have h3 : ([1, 3, 9, 27, 81, 243] : List Int32).getD (w.1 59 5).toNatClampNeg 0 = nI (3 ^ P.2.2.2.1) := by rw [p4, nI_clamp (by omega), List.getD_eq_getElem?_getD, hsol.2.2.2]; rfl
    have h3b : ¬ (w.1 59 5 < 0 ∨ 6 ≤ (w.1 59 5).toNatClampNeg) := by rw [p4]; exact nI_in b4 (by decide)
    -- the weight that is put on
    have key : ∀ W0 : Nat, W0 = (if r then 0 else q.2.2.1 + 2 ^ P.2.2.2.1) → am_R shC mi_X10_go (am_D shC (d - 1)) (fun o => o.1 = none ∧ am_fr 59 w o.2 ∧ wkP (o.2.1 59) P ∧ wkQ (o.2.1 59) (goS V P s r q).1 (goS V P s r q).2) 38 [(0, .ref 59), (1, .int (nI s)), (3, .int (w.1 59 6))] [.int (nI W0), .ref 59] (am_pi w 59 12 (-1)) := by
      intro W0 hW0
      have hW1 : W0 < 1000 := by rw [hW0]; split <;> omega
      iterate 7 (first | refine am_g0 rfl rfl ?_ | refine am_go rfl ?_)
      refine am_ff h3b ?_
      refine am_top h3 ?_
      iterate 1 (first | refine am_g0 rfl rfl ?_ | refine am_go rfl ?_)
      by_cases hw : W0 < 3 ^ P.2.2.2.1
      · refine am_tt (show nI W0 < nI (3 ^ P.2.2.2.1) from nI_lt hw (by omega)) ?_
        have hg : goS V P s r q = ((V.2.2.1 q.1 P.2.2.2.2, stOf (V.2.1 (V.2.2.1 q.1 P.2.2.2.2)), W0, q.2.2.2.1, q.2.2.2.2), none) := by unfold goS; rw [if_neg (by omega), ← hW0, if_pos hw]
        rw [hg]
        refine am_kl (d_gotail_59 (by omega) (hV.fr (fun a ha => ?_)) (c := q.1) hpl hcn p5 b5 ?_) rfl
        · exact ((am_fr.rf.pi).pi (b := 59)).1 a (by omega)
        · exact ⟨rfl, ((((am_fr.rf.pi).pi).pi).pi), ⟨p1, p2, p3, p4, p5⟩, plc_free hV hcn b5 hk1, rfl, rfl, q4, q5, rfl⟩
      · refine am_ff (show ¬ nI W0 < nI (3 ^ P.2.2.2.1) from nI_nlt (by omega) (by omega)) ?_
        iterate 7 (first | refine am_g0 rfl rfl ?_ | refine am_go rfl ?_)
        refine am_ff h3b ?_
        refine am_top h3 ?_
        iterate 1 (first | refine am_g0 rfl rfl ?_ | refine am_go rfl ?_)
        refine am_top (y := nI (W0 - 3 ^ P.2.2.2.1)) (pk_sub (by omega)) ?_
        -- which foot
        have foot : ∀ (ev : Bool) (l t : Nat), (ev = true ↔ s % 2 = 0) → l = (if s % 2 = 0 then P.2.1 else P.2.2.1) → t = (if s % 2 = 0 then q.2.2.2.1 else q.2.2.2.2) → am_R shC mi_X10_go (am_D shC (d - 1)) (fun o => o.1 = none ∧ am_fr 59 w o.2 ∧ wkP (o.2.1 59) P ∧ wkQ (o.2.1 59) (goS V P s r q).1 (goS V P s r q).2) 84 [(0, .ref 59), (3, .int (w.1 59 6))] [.int (if ev then 1 else 0)] (am_pi (am_pi (am_pi w 59 12 (-1)) 59 9 (nI W0)) 59 9 (nI (W0 - 3 ^ P.2.2.2.1))) := by
          intro ev l t hev hl ht
          have hl8 : l < 8 := by rw [hl]; split <;> omega
          have ht30 : t ≤ s := by rw [ht]; split <;> omega
          have hlm : V.2.2.2.1 ≤ 8 := hV.2.2.1
          by_cases hm : l < V.2.2.2.1
          · have hlet := (hV.2.2.2 l hm).2.2.2.2.2 (t % V.2.2.2.2.2.1 l) (Nat.mod_lt _ (by have := (hV.2.2.2 l hm).2.2.2.1; omega))
            obtain ⟨A, hA⟩ : ∃ A, A = wayS (V.2.2.2.2.1 l) (V.2.2.2.2.2.1 l) (V.2.2.2.2.2.2 l) t := ⟨_, rfl⟩
            have hway : A < 4 := by rw [hA]; exact wayS_lt hlet.2
            have hg : goS V P s r q = ((V.2.2.1 q.1 A, stOf (V.2.1 (V.2.2.1 q.1 A)), W0 - 3 ^ P.2.2.2.1, q.2.2.2.1 + (if s % 2 = 0 then 1 else 0), q.2.2.2.2 + (if s % 2 = 0 then 0 else 1)), some l) := by unfold goS; rw [if_neg (by omega), ← hW0, if_neg hw, ← hl, ← ht, if_pos hm, ← hA]
            have call : ∀ w1 : am_M, (∀ a, a < 16 → w1.1 a = w.1 a) → am_D shC (d - 1) mi_X0_wayOf [.ref 12, .int (nI l), .int (nI t)] w1 (some (.int (nI A)), w1) := fun w1 h1 => by rw [hA]; exact d_wayOf (by omega) (hV.2.fr h1) hm (by omega)
            have hw1 : ∀ a, a < 16 → (am_pi (am_pi (am_pi w 59 12 (-1)) 59 9 (nI W0)) 59 9 (nI (W0 - 3 ^ P.2.2.2.1))).1 a = w.1 a := fun a ha => (((am_fr.rf.pi).pi).pi (b := 59)).1 a (by omega)
            cases ev with
            | true =>
              have he : s % 2 = 0 := hev.mp rfl
              rw [if_pos he] at hl ht
              refine am_top (y := 1) rfl ?_
              iterate 12 (first | refine am_g0 rfl rfl ?_ | refine am_go rfl ?_)
              refine am_ff (show ¬ w.1 12 3 ≤ w.1 59 3 by rw [hV.2.1, p2, ← hl]; exact nI_ge hm (by omega)) ?_
              iterate 9 (first | refine am_g0 rfl rfl ?_ | refine am_go rfl ?_)
              refine ⟨(some (.int (nI A)), am_pi (am_pi (am_pi w 59 12 (-1)) 59 9 (nI W0)) 59 9 (nI (W0 - 3 ^ P.2.2.2.1))), (show am_D shC (d - 1) mi_X0_wayOf [.ref 12, .int (w.1 59 3), .int (w.1 59 10)] _ _ by rw [p2, q4, ← hl, ← ht]; exact call _ hw1), ?_⟩
              refine am_to (lv' := [(0, .ref 59), (4, .int 1), (5, .int (w.1 59 3))]) (st' := [.int (nI A)]) (w' := am_pi (am_pi (am_pi w 59 12 (-1)) 59 9 (nI W0)) 59 9 (nI (W0 - 3 ^ P.2.2.2.1))) rfl rfl rfl ?_
              iterate 22 (first | refine am_g0 rfl rfl ?_ | refine am_go rfl ?_)
              rw [hg, if_pos he, if_pos he]
              refine am_kl (d_gotail_59 (by omega) (hV.fr (fun a ha => ?_)) (c := q.1) hpl hcn rfl hway ?_) rfl
              · exact ((((((am_fr.rf.pi).pi).pi).pi).pi).pi (b := 59)).1 a (by omega)
              · refine ⟨rfl, ((((((((am_fr.rf.pi).pi).pi).pi).pi).pi).pi).pi), ⟨p1, p2, p3, p4, p5⟩, plc_free hV hcn hway hk1, rfl, rfl, ?_, ?_, ?_⟩
                · show w.1 59 10 + 1 = _
                  rw [q4, nI_1]
                · show w.1 59 11 + 0 = _
                  rw [q5]; exact Int32.add_zero _
                · show w.1 59 3 = _
                  rw [p2, ← hl]; rfl
            | false =>
              have he : ¬ s % 2 = 0 := fun z => by have := hev.mpr z; cases this
              rw [if_neg he] at hl ht
              refine am_top (y := 0) rfl ?_
              iterate 11 (first | refine am_g0 rfl rfl ?_ | refine am_go rfl ?_)
              refine am_ff (show ¬ w.1 12 3 ≤ w.1 59 4 by rw [hV.2.1, p3, ← hl]; exact nI_ge hm (by omega)) ?_
              iterate 8 (first | refine am_g0 rfl rfl ?_ | refine am_go rfl ?_)
              refine ⟨(some (.int (nI A)), am_pi (am_pi (am_pi w 59 12 (-1)) 59 9 (nI W0)) 59 9 (nI (W0 - 3 ^ P.2.2.2.1))), (show am_D shC (d - 1) mi_X0_wayOf [.ref 12, .int (w.1 59 4), .int (w.1 59 11)] _ _ by rw [p3, q5, ← hl, ← ht]; exact call _ hw1), ?_⟩
              refine am_to (lv' := [(0, .ref 59), (4, .int 0), (5, .int (w.1 59 4))]) (st' := [.int (nI A)]) (w' := am_pi (am_pi (am_pi w 59 12 (-1)) 59 9 (nI W0)) 59 9 (nI (W0 - 3 ^ P.2.2.2.1))) rfl rfl rfl ?_
              iterate 20 (first | refine am_g0 rfl rfl ?_ | refine am_go rfl ?_)
              rw [hg, if_neg he, if_neg he]
              refine am_kl (d_gotail_59 (by omega) (hV.fr (fun a ha => ?_)) (c := q.1) hpl hcn rfl hway ?_) rfl
              · exact ((((((am_fr.rf.pi).pi).pi).pi).pi).pi (b := 59)).1 a (by omega)
              · refine ⟨rfl, ((((((((am_fr.rf.pi).pi).pi).pi).pi).pi).pi).pi), ⟨p1, p2, p3, p4, p5⟩, plc_free hV hcn hway hk1, rfl, rfl, ?_, ?_, ?_⟩
                · show w.1 59 10 + 0 = _
                  rw [q4]; exact Int32.add_zero _
                · show w.1 59 11 + 1 = _
                  rw [q5, nI_1]
                · show w.1 59 4 = _
                  rw [p3, ← hl]; rfl
          · have hg : goS V P s r q = ((V.2.2.1 q.1 P.2.2.2.2, stOf (V.2.1 (V.2.2.1 q.1 P.2.2.2.2)), W0 - 3 ^ P.2.2.2.1, q.2.2.2.1, q.2.2.2.2), none) := by unfold goS; rw [if_neg (by omega), ← hW0, if_neg hw, ← hl, if_neg hm]
            have fin : ∀ lv, am_kill mi_X10_go 186 lv = [(0, .ref 59), (3, .int (w.1 59 6))] → am_R shC mi_X10_go (am_D shC (d - 1)) (fun o => o.1 = none ∧ am_fr 59 w o.2 ∧ wkP (o.2.1 59) P ∧ wkQ (o.2.1 59) (goS V P s r q).1 (goS V P s r q).2) 186 lv [] (am_pi (am_pi (am_pi w 59 12 (-1)) 59 9 (nI W0)) 59 9 (nI (W0 - 3 ^ P.2.2.2.1))) := by
              intro lv hlv
              rw [hg]
              refine am_kl (d_gotail_59 (by omega) (hV.fr (fun a ha => ?_)) (c := q.1) hpl hcn p5 b5 ?_) hlv
              · exact (((am_fr.rf.pi).pi).pi (b := 59)).1 a (by omega)
              · exact ⟨rfl, (((((am_fr.rf.pi).pi).pi).pi).pi), ⟨p1, p2, p3, p4, p5⟩, plc_free hV hcn b5 hk1, rfl, rfl, q4, q5, rfl⟩
            cases ev with
            | true =>
              have he : s % 2 = 0 := hev.mp rfl
              rw [if_pos he] at hl
              refine am_top (y := 1) rfl ?_
              iterate 12 (first | refine am_g0 rfl rfl ?_ | refine am_go rfl ?_)
              refine am_tt (show w.1 12 3 ≤ w.1 59 3 by rw [hV.2.1, p2, ← hl]; exact nI_le (by omega) (by omega)) ?_
              exact fin _ rfl
            | false =>
              have he : ¬ s % 2 = 0 := fun z => by have := hev.mpr z; cases this
              rw [if_neg he] at hl
              refine am_top (y := 0) rfl ?_
              iterate 11 (first | refine am_g0 rfl rfl ?_ | refine am_go rfl ?_)
              refine am_tt (show w.1 12 3 ≤ w.1 59 4 by rw [hV.2.1, p3, ← hl]; exact nI_le (by omega) (by omega)) ?_
              exact fin _ rfl
        iterate 4 (first | refine am_g0 rfl rfl ?_ | refine am_go rfl ?_)
        refine am_top (y := nI (s % 2)) (pk_rem (d := 2) (by omega) (by omega) (by omega)) ?_
        iterate 1 (first | refine am_g0 rfl rfl ?_ | refine am_go rfl ?_)
        by_cases he : s % 2 = 0
        · refine am_tt (show nI (s % 2) = 0 by rw [he]; rfl) ?_
          iterate 2 (first | refine am_g0 rfl rfl ?_ | refine am_go rfl ?_)
          exact am_kl (foot true _ _ ⟨fun _ => he, fun _ => rfl⟩ rfl rfl) rfl
        · refine am_ff (show ¬ nI (s % 2) = 0 from nI_ne0 (by omega) (by omega)) ?_
          iterate 1 (first | refine am_g0 rfl rfl ?_ | refine am_go rfl ?_)
          exact am_kl (foot false _ _ ⟨fun z => (Bool.false_ne_true z).elim, fun z => absurd z he⟩ rfl rfl) rfl
    cases r with
    | true =>
      iterate 8 (first | refine am_g0 rfl rfl ?_ | refine am_go rfl ?_)
      exact am_kl (key 0 rfl) rfl
    | false =>
      iterate 13 (first | refine am_g0 rfl rfl ?_ | refine am_go rfl ?_)
      refine am_top (y := nI (q.2.2.1 + 2 ^ P.2.2.2.1)) (show w.1 59 9 + (1 : Int32) <<< (w.1 59 5 &&& 31) = _ by rw [q3, p4, shl_one b4, nI_add]) ?_
      exact am_kl (key _ rfl) rfl
  · refine am_ff (show ¬ w.1 59 8 = 0 by rw [q2]; exact nI_ne0 (by omega) (by omega)) ?_
    iterate 1 (first | refine am_g0 rfl rfl ?_ | refine am_go rfl ?_)
    have hg : goS V P s r q = (q, none) := by unfold goS; rw [if_pos h0]
    rw [hg]
    exact ⟨rfl, rfl, am_fr.rf.pi, ⟨p1, p2, p3, p4, p5⟩, q1, q2, q3, q4, q5, rfl⟩
theorem d_gotail_60 {d : Nat} {V : Wd} {w : am_M} {c a : Nat} {x : Int32} {Φ : am_O → Prop} (hd : 1 ≤ d) (hV : cV w V) (hc : w.1 60 7 = nI c) (hcn : c < V.1) (hx : x = nI a) (ha : a < 4) (hΦ : Φ (none, am_pi (am_pi w 60 7 (nI (V.2.2.1 c a))) 60 8 (nI (stOf (V.2.1 (V.2.2.1 c a)))))) : am_R shC mi_X10_go (am_D shC d) Φ 186 [(0, .ref 60), (3, .int x)] [] w := by
  have hT := hV.1
  subst hx
  iterate 7 (first | refine am_g0 rfl rfl ?_ | refine am_go rfl ?_)
  rw [hc]
  refine ⟨(some (.int (nI (V.2.2.1 c a))), w), d_nextOf hd hT hcn ha, ?_⟩
  iterate 7 (first | refine am_g0 rfl rfl ?_ | refine am_go rfl ?_)
  refine ⟨(some (.int (nI (stOf (V.2.1 (V.2.2.1 c a))))), _), d_stateOn_t hd (hT.fr (fun b hb => am_pi_row (by omega))) ((hT.2.2.2 c hcn a ha).2.1), ?_⟩
  iterate 2 (first | refine am_g0 rfl rfl ?_ | refine am_go rfl ?_)
  exact ⟨rfl, hΦ⟩
set_option maxHeartbeats 8000000 in
theorem d_go_60 {d : Nat} {V : Wd} {P : Pr} {q : Qs} {b0 : Option Nat} {s : Nat} {r : Bool} {w : am_M} (hd : 2 ≤ d) (hV : cV w V) (hP : wkP (w.1 60) P) (hPb : Pok P) (hQ : wkQ (w.1 60) q b0) (hq : qok V P q s) (hs : s < 30) : ∃ o : am_O, (o.1 = none ∧ am_fr 60 w o.2 ∧ wkP (o.2.1 60) P ∧ wkQ (o.2.1 60) (goS V P s r q).1 (goS V P s r q).2) ∧ am_D shC d mi_X10_go [.ref 60, .int (nI s), .int (if r then 1 else 0)] w o := by
  obtain ⟨p1, p2, p3, p4, p5⟩ := hP
  obtain ⟨q1, q2, q3, q4, q5, q6⟩ := hQ
  obtain ⟨b1, b2, b3, b4, b5⟩ := hPb
  obtain ⟨qa, qb, qc, qd, qe⟩ := hq
  have hsol := pow_bd P.2.2.2.1 b4
  refine am_dex (by omega) rfl rfl ?_
  iterate 6 (first | refine am_g0 rfl rfl ?_ | refine am_go rfl ?_)
  by_cases h0 : q.2.1 = 0
  · refine am_tt (show w.1 60 8 = 0 by rw [q2, h0]; rfl) ?_
    have hpl : w.1 60 7 = nI q.1 := by rw [q1]; unfold plc; rw [if_neg (by omega)]
    have hcn : q.1 < V.1 := (qb (by omega)).1
    have hk1 : V.2.1 q.1 ≠ 1 := fun z => by
      have := (qb (by omega)).2
      rw [z, h0] at this
      exact absurd this (by decide)
    have h3 : ([1, 3, 9, 27, 81, 243] : List Int32).getD (w.1 60 5).toNatClampNeg 0 = nI (3 ^ P.2.2.2.1) := by rw [p4, nI_clamp (by omega), List.getD_eq_getElem?_getD, hsol.2.2.2]; rfl
    have h3b : ¬ (w.1 60 5 < 0 ∨ 6 ≤ (w.1 60 5).toNatClampNeg) := by rw [p4]; exact nI_in b4 (by decide)
    -- the weight that is put on
    have key : ∀ W0 : Nat, W0 = (if r then 0 else q.2.2.1 + 2 ^ P.2.2.2.1) → am_R shC mi_X10_go (am_D shC (d - 1)) (fun o => o.1 = none ∧ am_fr 60 w o.2 ∧ wkP (o.2.1 60) P ∧ wkQ (o.2.1 60) (goS V P s r q).1 (goS V P s r q).2) 38 [(0, .ref 60), (1, .int (nI s)), (3, .int (w.1 60 6))] [.int (nI W0), .ref 60] (am_pi w 60 12 (-1)) := by
      intro W0 hW0
      have hW1 : W0 < 1000 := by rw [hW0]; split <;> omega
      iterate 7 (first | refine am_g0 rfl rfl ?_ | refine am_go rfl ?_)
      refine am_ff h3b ?_
      refine am_top h3 ?_
      iterate 1 (first | refine am_g0 rfl rfl ?_ | refine am_go rfl ?_)
      by_cases hw : W0 < 3 ^ P.2.2.2.1
      · refine am_tt (show nI W0 < nI (3 ^ P.2.2.2.1) from nI_lt hw (by omega)) ?_
        have hg : goS V P s r q = ((V.2.2.1 q.1 P.2.2.2.2, stOf (V.2.1 (V.2.2.1 q.1 P.2.2.2.2)), W0, q.2.2.2.1, q.2.2.2.2), none) := by unfold goS; rw [if_neg (by omega), ← hW0, if_pos hw]
        rw [hg]
        refine am_kl (d_gotail_60 (by omega) (hV.fr (fun a ha => ?_)) (c := q.1) hpl hcn p5 b5 ?_) rfl
        · exact ((am_fr.rf.pi).pi (b := 60)).1 a (by omega)
        · exact ⟨rfl, ((((am_fr.rf.pi).pi).pi).pi), ⟨p1, p2, p3, p4, p5⟩, plc_free hV hcn b5 hk1, rfl, rfl, q4, q5, rfl⟩
      · refine am_ff (show ¬ nI W0 < nI (3 ^ P.2.2.2.1) from nI_nlt (by omega) (by omega)) ?_
        iterate 7 (first | refine am_g0 rfl rfl ?_ | refine am_go rfl ?_)
        refine am_ff h3b ?_
        refine am_top h3 ?_
        iterate 1 (first | refine am_g0 rfl rfl ?_ | refine am_go rfl ?_)
        refine am_top (y := nI (W0 - 3 ^ P.2.2.2.1)) (pk_sub (by omega)) ?_
        -- which foot
        have foot : ∀ (ev : Bool) (l t : Nat), (ev = true ↔ s % 2 = 0) → l = (if s % 2 = 0 then P.2.1 else P.2.2.1) → t = (if s % 2 = 0 then q.2.2.2.1 else q.2.2.2.2) → am_R shC mi_X10_go (am_D shC (d - 1)) (fun o => o.1 = none ∧ am_fr 60 w o.2 ∧ wkP (o.2.1 60) P ∧ wkQ (o.2.1 60) (goS V P s r q).1 (goS V P s r q).2) 84 [(0, .ref 60), (3, .int (w.1 60 6))] [.int (if ev then 1 else 0)] (am_pi (am_pi (am_pi w 60 12 (-1)) 60 9 (nI W0)) 60 9 (nI (W0 - 3 ^ P.2.2.2.1))) := by
          intro ev l t hev hl ht
          have hl8 : l < 8 := by rw [hl]; split <;> omega
          have ht30 : t ≤ s := by rw [ht]; split <;> omega
          have hlm : V.2.2.2.1 ≤ 8 := hV.2.2.1
          by_cases hm : l < V.2.2.2.1
          · have hlet := (hV.2.2.2 l hm).2.2.2.2.2 (t % V.2.2.2.2.2.1 l) (Nat.mod_lt _ (by have := (hV.2.2.2 l hm).2.2.2.1; omega))
            obtain ⟨A, hA⟩ : ∃ A, A = wayS (V.2.2.2.2.1 l) (V.2.2.2.2.2.1 l) (V.2.2.2.2.2.2 l) t := ⟨_, rfl⟩
            have hway : A < 4 := by rw [hA]; exact wayS_lt hlet.2
            have hg : goS V P s r q = ((V.2.2.1 q.1 A, stOf (V.2.1 (V.2.2.1 q.1 A)), W0 - 3 ^ P.2.2.2.1, q.2.2.2.1 + (if s % 2 = 0 then 1 else 0), q.2.2.2.2 + (if s % 2 = 0 then 0 else 1)), some l) := by unfold goS; rw [if_neg (by omega), ← hW0, if_neg hw, ← hl, ← ht, if_pos hm, ← hA]
            have call : ∀ w1 : am_M, (∀ a, a < 16 → w1.1 a = w.1 a) → am_D shC (d - 1) mi_X0_wayOf [.ref 12, .int (nI l), .int (nI t)] w1 (some (.int (nI A)), w1) := fun w1 h1 => by rw [hA]; exact d_wayOf (by omega) (hV.2.fr h1) hm (by omega)
            have hw1 : ∀ a, a < 16 → (am_pi (am_pi (am_pi w 60 12 (-1)) 60 9 (nI W0)) 60 9 (nI (W0 - 3 ^ P.2.2.2.1))).1 a = w.1 a := fun a ha => (((am_fr.rf.pi).pi).pi (b := 60)).1 a (by omega)
            cases ev with
            | true =>
              have he : s % 2 = 0 := hev.mp rfl
              rw [if_pos he] at hl ht
              refine am_top (y := 1) rfl ?_
              iterate 12 (first | refine am_g0 rfl rfl ?_ | refine am_go rfl ?_)
              refine am_ff (show ¬ w.1 12 3 ≤ w.1 60 3 by rw [hV.2.1, p2, ← hl]; exact nI_ge hm (by omega)) ?_
              iterate 9 (first | refine am_g0 rfl rfl ?_ | refine am_go rfl ?_)
              refine ⟨(some (.int (nI A)), am_pi (am_pi (am_pi w 60 12 (-1)) 60 9 (nI W0)) 60 9 (nI (W0 - 3 ^ P.2.2.2.1))), (show am_D shC (d - 1) mi_X0_wayOf [.ref 12, .int (w.1 60 3), .int (w.1 60 10)] _ _ by rw [p2, q4, ← hl, ← ht]; exact call _ hw1), ?_⟩
              refine am_to (lv' := [(0, .ref 60), (4, .int 1), (5, .int (w.1 60 3))]) (st' := [.int (nI A)]) (w' := am_pi (am_pi (am_pi w 60 12 (-1)) 60 9 (nI W0)) 60 9 (nI (W0 - 3 ^ P.2.2.2.1))) rfl rfl rfl ?_
              iterate 22 (first | refine am_g0 rfl rfl ?_ | refine am_go rfl ?_)
              rw [hg, if_pos he, if_pos he]
              refine am_kl (d_gotail_60 (by omega) (hV.fr (fun a ha => ?_)) (c := q.1) hpl hcn rfl hway ?_) rfl
              · exact ((((((am_fr.rf.pi).pi).pi).pi).pi).pi (b := 60)).1 a (by omega)
              · refine ⟨rfl, ((((((((am_fr.rf.pi).pi).pi).pi).pi).pi).pi).pi), ⟨p1, p2, p3, p4, p5⟩, plc_free hV hcn hway hk1, rfl, rfl, ?_, ?_, ?_⟩
                · show w.1 60 10 + 1 = _
                  rw [q4, nI_1]
                · show w.1 60 11 + 0 = _
                  rw [q5]; exact Int32.add_zero _
                · show w.1 60 3 = _
                  rw [p2, ← hl]; rfl
            | false =>
              have he : ¬ s % 2 = 0 := fun z => by have := hev.mpr z; cases this
              rw [if_neg he] at hl ht
              refine am_top (y := 0) rfl ?_
              iterate 11 (first | refine am_g0 rfl rfl ?_ | refine am_go rfl ?_)
              refine am_ff (show ¬ w.1 12 3 ≤ w.1 60 4 by rw [hV.2.1, p3, ← hl]; exact nI_ge hm (by omega)) ?_
              iterate 8 (first | refine am_g0 rfl rfl ?_ | refine am_go rfl ?_)
              refine ⟨(some (.int (nI A)), am_pi (am_pi (am_pi w 60 12 (-1)) 60 9 (nI W0)) 60 9 (nI (W0 - 3 ^ P.2.2.2.1))), (show am_D shC (d - 1) mi_X0_wayOf [.ref 12, .int (w.1 60 4), .int (w.1 60 11)] _ _ by rw [p3, q5, ← hl, ← ht]; exact call _ hw1), ?_⟩
              refine am_to (lv' := [(0, .ref 60), (4, .int 0), (5, .int (w.1 60 4))]) (st' := [.int (nI A)]) (w' := am_pi (am_pi (am_pi w 60 12 (-1)) 60 9 (nI W0)) 60 9 (nI (W0 - 3 ^ P.2.2.2.1))) rfl rfl rfl ?_
              iterate 20 (first | refine am_g0 rfl rfl ?_ | refine am_go rfl ?_)
              rw [hg, if_neg he, if_neg he]
              refine am_kl (d_gotail_60 (by omega) (hV.fr (fun a ha => ?_)) (c := q.1) hpl hcn rfl hway ?_) rfl
              · exact ((((((am_fr.rf.pi).pi).pi).pi).pi).pi (b := 60)).1 a (by omega)
              · refine ⟨rfl, ((((((((am_fr.rf.pi).pi).pi).pi).pi).pi).pi).pi), ⟨p1, p2, p3, p4, p5⟩, plc_free hV hcn hway hk1, rfl, rfl, ?_, ?_, ?_⟩
                · show w.1 60 10 + 0 = _
                  rw [q4]; exact Int32.add_zero _
                · show w.1 60 11 + 1 = _
                  rw [q5, nI_1]
                · show w.1 60 4 = _
                  rw [p3, ← hl]; rfl
          · have hg : goS V P s r q = ((V.2.2.1 q.1 P.2.2.2.2, stOf (V.2.1 (V.2.2.1 q.1 P.2.2.2.2)), W0 - 3 ^ P.2.2.2.1, q.2.2.2.1, q.2.2.2.2), none) := by unfold goS; rw [if_neg (by omega), ← hW0, if_neg hw, ← hl, if_neg hm]
            have fin : ∀ lv, am_kill mi_X10_go 186 lv = [(0, .ref 60), (3, .int (w.1 60 6))] → am_R shC mi_X10_go (am_D shC (d - 1)) (fun o => o.1 = none ∧ am_fr 60 w o.2 ∧ wkP (o.2.1 60) P ∧ wkQ (o.2.1 60) (goS V P s r q).1 (goS V P s r q).2) 186 lv [] (am_pi (am_pi (am_pi w 60 12 (-1)) 60 9 (nI W0)) 60 9 (nI (W0 - 3 ^ P.2.2.2.1))) := by
              intro lv hlv
              rw [hg]
              refine am_kl (d_gotail_60 (by omega) (hV.fr (fun a ha => ?_)) (c := q.1) hpl hcn p5 b5 ?_) hlv
              · exact (((am_fr.rf.pi).pi).pi (b := 60)).1 a (by omega)
              · exact ⟨rfl, (((((am_fr.rf.pi).pi).pi).pi).pi), ⟨p1, p2, p3, p4, p5⟩, plc_free hV hcn b5 hk1, rfl, rfl, q4, q5, rfl⟩
            cases ev with
            | true =>
              have he : s % 2 = 0 := hev.mp rfl
              rw [if_pos he] at hl
              refine am_top (y := 1) rfl ?_
              iterate 12 (first | refine am_g0 rfl rfl ?_ | refine am_go rfl ?_)
              refine am_tt (show w.1 12 3 ≤ w.1 60 3 by rw [hV.2.1, p2, ← hl]; exact nI_le (by omega) (by omega)) ?_
              exact fin _ rfl
            | false =>
              have he : ¬ s % 2 = 0 := fun z => by have := hev.mpr z; cases this
              rw [if_neg he] at hl
              refine am_top (y := 0) rfl ?_
              iterate 11 (first | refine am_g0 rfl rfl ?_ | refine am_go rfl ?_)
              refine am_tt (show w.1 12 3 ≤ w.1 60 4 by rw [hV.2.1, p3, ← hl]; exact nI_le (by omega) (by omega)) ?_
              exact fin _ rfl
        iterate 4 (first | refine am_g0 rfl rfl ?_ | refine am_go rfl ?_)
        refine am_top (y := nI (s % 2)) (pk_rem (d := 2) (by omega) (by omega) (by omega)) ?_
        iterate 1 (first | refine am_g0 rfl rfl ?_ | refine am_go rfl ?_)
        by_cases he : s % 2 = 0
        · refine am_tt (show nI (s % 2) = 0 by rw [he]; rfl) ?_
          iterate 2 (first | refine am_g0 rfl rfl ?_ | refine am_go rfl ?_)
          exact am_kl (foot true _ _ ⟨fun _ => he, fun _ => rfl⟩ rfl rfl) rfl
        · refine am_ff (show ¬ nI (s % 2) = 0 from nI_ne0 (by omega) (by omega)) ?_
          iterate 1 (first | refine am_g0 rfl rfl ?_ | refine am_go rfl ?_)
          exact am_kl (foot false _ _ ⟨fun z => (Bool.false_ne_true z).elim, fun z => absurd z he⟩ rfl rfl) rfl
    cases r with
    | true =>
      iterate 8 (first | refine am_g0 rfl rfl ?_ | refine am_go rfl ?_)
      exact am_kl (key 0 rfl) rfl
    | false =>
      iterate 13 (first | refine am_g0 rfl rfl ?_ | refine am_go rfl ?_)
      refine am_top (y := nI (q.2.2.1 + 2 ^ P.2.2.2.1)) (show w.1 60 9 + (1 : Int32) <<< (w.1 60 5 &&& 31) = _ by rw [q3, p4, shl_one b4, nI_add]) ?_
      exact am_kl (key _ rfl) rfl
  · refine am_ff (show ¬ w.1 60 8 = 0 by rw [q2]; exact nI_ne0 (by omega) (by omega)) ?_
    iterate 1 (first | refine am_g0 rfl rfl ?_ | refine am_go rfl ?_)
    have hg : goS V P s r q = (q, none) := by unfold goS; rw [if_pos h0]
    rw [hg]
    exact ⟨rfl, rfl, am_fr.rf.pi, ⟨p1, p2, p3, p4, p5⟩, q1, q2, q3, q4, q5, rfl⟩
theorem d_gotail_61 {d : Nat} {V : Wd} {w : am_M} {c a : Nat} {x : Int32} {Φ : am_O → Prop} (hd : 1 ≤ d) (hV : cV w V) (hc : w.1 61 7 = nI c) (hcn : c < V.1) (hx : x = nI a) (ha : a < 4) (hΦ : Φ (none, am_pi (am_pi w 61 7 (nI (V.2.2.1 c a))) 61 8 (nI (stOf (V.2.1 (V.2.2.1 c a)))))) : am_R shC mi_X10_go (am_D shC d) Φ 186 [(0, .ref 61), (3, .int x)] [] w := by
  have hT := hV.1
  subst hx
  iterate 7 (first | refine am_g0 rfl rfl ?_ | refine am_go rfl ?_)
  rw [hc]
  refine ⟨(some (.int (nI (V.2.2.1 c a))), w), d_nextOf hd hT hcn ha, ?_⟩
  iterate 7 (first | refine am_g0 rfl rfl ?_ | refine am_go rfl ?_)
  refine ⟨(some (.int (nI (stOf (V.2.1 (V.2.2.1 c a))))), _), d_stateOn_t hd (hT.fr (fun b hb => am_pi_row (by omega))) ((hT.2.2.2 c hcn a ha).2.1), ?_⟩
  iterate 2 (first | refine am_g0 rfl rfl ?_ | refine am_go rfl ?_)
  exact ⟨rfl, hΦ⟩
set_option maxHeartbeats 8000000 in
theorem d_go_61 {d : Nat} {V : Wd} {P : Pr} {q : Qs} {b0 : Option Nat} {s : Nat} {r : Bool} {w : am_M} (hd : 2 ≤ d) (hV : cV w V) (hP : wkP (w.1 61) P) (hPb : Pok P) (hQ : wkQ (w.1 61) q b0) (hq : qok V P q s) (hs : s < 30) : ∃ o : am_O, (o.1 = none ∧ am_fr 61 w o.2 ∧ wkP (o.2.1 61) P ∧ wkQ (o.2.1 61) (goS V P s r q).1 (goS V P s r q).2) ∧ am_D shC d mi_X10_go [.ref 61, .int (nI s), .int (if r then 1 else 0)] w o := by
  obtain ⟨p1, p2, p3, p4, p5⟩ := hP
  obtain ⟨q1, q2, q3, q4, q5, q6⟩ := hQ
  obtain ⟨b1, b2, b3, b4, b5⟩ := hPb
  obtain ⟨qa, qb, qc, qd, qe⟩ := hq
  have hsol := pow_bd P.2.2.2.1 b4
  refine am_dex (by omega) rfl rfl ?_
  iterate 6 (first | refine am_g0 rfl rfl ?_ | refine am_go rfl ?_)
  by_cases h0 : q.2.1 = 0
  · refine am_tt (show w.1 61 8 = 0 by rw [q2, h0]; rfl) ?_
    have hpl : w.1 61 7 = nI q.1 := by rw [q1]; unfold plc; rw [if_neg (by omega)]
    have hcn : q.1 < V.1 := (qb (by omega)).1
    have hk1 : V.2.1 q.1 ≠ 1 := fun z => by
      have := (qb (by omega)).2
      rw [z, h0] at this
      exact absurd this (by decide)
    have h3 : ([1, 3, 9, 27, 81, 243] : List Int32).getD (w.1 61 5).toNatClampNeg 0 = nI (3 ^ P.2.2.2.1) := by rw [p4, nI_clamp (by omega), List.getD_eq_getElem?_getD, hsol.2.2.2]; rfl
    have h3b : ¬ (w.1 61 5 < 0 ∨ 6 ≤ (w.1 61 5).toNatClampNeg) := by rw [p4]; exact nI_in b4 (by decide)
    -- the weight that is put on
    have key : ∀ W0 : Nat, W0 = (if r then 0 else q.2.2.1 + 2 ^ P.2.2.2.1) → am_R shC mi_X10_go (am_D shC (d - 1)) (fun o => o.1 = none ∧ am_fr 61 w o.2 ∧ wkP (o.2.1 61) P ∧ wkQ (o.2.1 61) (goS V P s r q).1 (goS V P s r q).2) 38 [(0, .ref 61), (1, .int (nI s)), (3, .int (w.1 61 6))] [.int (nI W0), .ref 61] (am_pi w 61 12 (-1)) := by
      intro W0 hW0
      have hW1 : W0 < 1000 := by rw [hW0]; split <;> omega
      iterate 7 (first | refine am_g0 rfl rfl ?_ | refine am_go rfl ?_)
      refine am_ff h3b ?_
      refine am_top h3 ?_
      iterate 1 (first | refine am_g0 rfl rfl ?_ | refine am_go rfl ?_)
      by_cases hw : W0 < 3 ^ P.2.2.2.1
      · refine am_tt (show nI W0 < nI (3 ^ P.2.2.2.1) from nI_lt hw (by omega)) ?_
        have hg : goS V P s r q = ((V.2.2.1 q.1 P.2.2.2.2, stOf (V.2.1 (V.2.2.1 q.1 P.2.2.2.2)), W0, q.2.2.2.1, q.2.2.2.2), none) := by unfold goS; rw [if_neg (by omega), ← hW0, if_pos hw]
        rw [hg]
        refine am_kl (d_gotail_61 (by omega) (hV.fr (fun a ha => ?_)) (c := q.1) hpl hcn p5 b5 ?_) rfl
        · exact ((am_fr.rf.pi).pi (b := 61)).1 a (by omega)
        · exact ⟨rfl, ((((am_fr.rf.pi).pi).pi).pi), ⟨p1, p2, p3, p4, p5⟩, plc_free hV hcn b5 hk1, rfl, rfl, q4, q5, rfl⟩
      · refine am_ff (show ¬ nI W0 < nI (3 ^ P.2.2.2.1) from nI_nlt (by omega) (by omega)) ?_
        iterate 7 (first | refine am_g0 rfl rfl ?_ | refine am_go rfl ?_)
        refine am_ff h3b ?_
        refine am_top h3 ?_
        iterate 1 (first | refine am_g0 rfl rfl ?_ | refine am_go rfl ?_)
        refine am_top (y := nI (W0 - 3 ^ P.2.2.2.1)) (pk_sub (by omega)) ?_
        -- which foot
        have foot : ∀ (ev : Bool) (l t : Nat), (ev = true ↔ s % 2 = 0) → l = (if s % 2 = 0 then P.2.1 else P.2.2.1) → t = (if s % 2 = 0 then q.2.2.2.1 else q.2.2.2.2) → am_R shC mi_X10_go (am_D shC (d - 1)) (fun o => o.1 = none ∧ am_fr 61 w o.2 ∧ wkP (o.2.1 61) P ∧ wkQ (o.2.1 61) (goS V P s r q).1 (goS V P s r q).2) 84 [(0, .ref 61), (3, .int (w.1 61 6))] [.int (if ev then 1 else 0)] (am_pi (am_pi (am_pi w 61 12 (-1)) 61 9 (nI W0)) 61 9 (nI (W0 - 3 ^ P.2.2.2.1))) := by
          intro ev l t hev hl ht
          have hl8 : l < 8 := by rw [hl]; split <;> omega
          have ht30 : t ≤ s := by rw [ht]; split <;> omega
          have hlm : V.2.2.2.1 ≤ 8 := hV.2.2.1
          by_cases hm : l < V.2.2.2.1
          · have hlet := (hV.2.2.2 l hm).2.2.2.2.2 (t % V.2.2.2.2.2.1 l) (Nat.mod_lt _ (by have := (hV.2.2.2 l hm).2.2.2.1; omega))
            obtain ⟨A, hA⟩ : ∃ A, A = wayS (V.2.2.2.2.1 l) (V.2.2.2.2.2.1 l) (V.2.2.2.2.2.2 l) t := ⟨_, rfl⟩
            have hway : A < 4 := by rw [hA]; exact wayS_lt hlet.2
            have hg : goS V P s r q = ((V.2.2.1 q.1 A, stOf (V.2.1 (V.2.2.1 q.1 A)), W0 - 3 ^ P.2.2.2.1, q.2.2.2.1 + (if s % 2 = 0 then 1 else 0), q.2.2.2.2 + (if s % 2 = 0 then 0 else 1)), some l) := by unfold goS; rw [if_neg (by omega), ← hW0, if_neg hw, ← hl, ← ht, if_pos hm, ← hA]
            have call : ∀ w1 : am_M, (∀ a, a < 16 → w1.1 a = w.1 a) → am_D shC (d - 1) mi_X0_wayOf [.ref 12, .int (nI l), .int (nI t)] w1 (some (.int (nI A)), w1) := fun w1 h1 => by rw [hA]; exact d_wayOf (by omega) (hV.2.fr h1) hm (by omega)
            have hw1 : ∀ a, a < 16 → (am_pi (am_pi (am_pi w 61 12 (-1)) 61 9 (nI W0)) 61 9 (nI (W0 - 3 ^ P.2.2.2.1))).1 a = w.1 a := fun a ha => (((am_fr.rf.pi).pi).pi (b := 61)).1 a (by omega)
            cases ev with
            | true =>
              have he : s % 2 = 0 := hev.mp rfl
              rw [if_pos he] at hl ht
              refine am_top (y := 1) rfl ?_
              iterate 12 (first | refine am_g0 rfl rfl ?_ | refine am_go rfl ?_)
              refine am_ff (show ¬ w.1 12 3 ≤ w.1 61 3 by rw [hV.2.1, p2, ← hl]; exact nI_ge hm (by omega)) ?_
              iterate 9 (first | refine am_g0 rfl rfl ?_ | refine am_go rfl ?_)
              refine ⟨(some (.int (nI A)), am_pi (am_pi (am_pi w 61 12 (-1)) 61 9 (nI W0)) 61 9 (nI (W0 - 3 ^ P.2.2.2.1))), (show am_D shC (d - 1) mi_X0_wayOf [.ref 12, .int (w.1 61 3), .int (w.1 61 10)] _ _ by rw [p2, q4, ← hl, ← ht]; exact call _ hw1), ?_⟩
              refine am_to (lv' := [(0, .ref 61), (4, .int 1), (5, .int (w.1 61 3))]) (st' := [.int (nI A)]) (w' := am_pi (am_pi (am_pi w 61 12 (-1)) 61 9 (nI W0)) 61 9 (nI (W0 - 3 ^ P.2.2.2.1))) rfl rfl rfl ?_
              iterate 22 (first | refine am_g0 rfl rfl ?_ | refine am_go rfl ?_)
              rw [hg, if_pos he, if_pos he]
              refine am_kl (d_gotail_61 (by omega) (hV.fr (fun a ha => ?_)) (c := q.1) hpl hcn rfl hway ?_) rfl
              · exact ((((((am_fr.rf.pi).pi).pi).pi).pi).pi (b := 61)).1 a (by omega)
              · refine ⟨rfl, ((((((((am_fr.rf.pi).pi).pi).pi).pi).pi).pi).pi), ⟨p1, p2, p3, p4, p5⟩, plc_free hV hcn hway hk1, rfl, rfl, ?_, ?_, ?_⟩
                · show w.1 61 10 + 1 = _
                  rw [q4, nI_1]
                · show w.1 61 11 + 0 = _
                  rw [q5]; exact Int32.add_zero _
                · show w.1 61 3 = _
                  rw [p2, ← hl]; rfl
            | false =>
              have he : ¬ s % 2 = 0 := fun z => by have := hev.mpr z; cases this
              rw [if_neg he] at hl ht
              refine am_top (y := 0) rfl ?_
              iterate 11 (first | refine am_g0 rfl rfl ?_ | refine am_go rfl ?_)
              refine am_ff (show ¬ w.1 12 3 ≤ w.1 61 4 by rw [hV.2.1, p3, ← hl]; exact nI_ge hm (by omega)) ?_
              iterate 8 (first | refine am_g0 rfl rfl ?_ | refine am_go rfl ?_)
              refine ⟨(some (.int (nI A)), am_pi (am_pi (am_pi w 61 12 (-1)) 61 9 (nI W0)) 61 9 (nI (W0 - 3 ^ P.2.2.2.1))), (show am_D shC (d - 1) mi_X0_wayOf [.ref 12, .int (w.1 61 4), .int (w.1 61 11)] _ _ by rw [p3, q5, ← hl, ← ht]; exact call _ hw1), ?_⟩
              refine am_to (lv' := [(0, .ref 61), (4, .int 0), (5, .int (w.1 61 4))]) (st' := [.int (nI A)]) (w' := am_pi (am_pi (am_pi w 61 12 (-1)) 61 9 (nI W0)) 61 9 (nI (W0 - 3 ^ P.2.2.2.1))) rfl rfl rfl ?_
              iterate 20 (first | refine am_g0 rfl rfl ?_ | refine am_go rfl ?_)
              rw [hg, if_neg he, if_neg he]
              refine am_kl (d_gotail_61 (by omega) (hV.fr (fun a ha => ?_)) (c := q.1) hpl hcn rfl hway ?_) rfl
              · exact ((((((am_fr.rf.pi).pi).pi).pi).pi).pi (b := 61)).1 a (by omega)
              · refine ⟨rfl, ((((((((am_fr.rf.pi).pi).pi).pi).pi).pi).pi).pi), ⟨p1, p2, p3, p4, p5⟩, plc_free hV hcn hway hk1, rfl, rfl, ?_, ?_, ?_⟩
                · show w.1 61 10 + 0 = _
                  rw [q4]; exact Int32.add_zero _
                · show w.1 61 11 + 1 = _
                  rw [q5, nI_1]
                · show w.1 61 4 = _
                  rw [p3, ← hl]; rfl
          · have hg : goS V P s r q = ((V.2.2.1 q.1 P.2.2.2.2, stOf (V.2.1 (V.2.2.1 q.1 P.2.2.2.2)), W0 - 3 ^ P.2.2.2.1, q.2.2.2.1, q.2.2.2.2), none) := by unfold goS; rw [if_neg (by omega), ← hW0, if_neg hw, ← hl, if_neg hm]
            have fin : ∀ lv, am_kill mi_X10_go 186 lv = [(0, .ref 61), (3, .int (w.1 61 6))] → am_R shC mi_X10_go (am_D shC (d - 1)) (fun o => o.1 = none ∧ am_fr 61 w o.2 ∧ wkP (o.2.1 61) P ∧ wkQ (o.2.1 61) (goS V P s r q).1 (goS V P s r q).2) 186 lv [] (am_pi (am_pi (am_pi w 61 12 (-1)) 61 9 (nI W0)) 61 9 (nI (W0 - 3 ^ P.2.2.2.1))) := by
              intro lv hlv
              rw [hg]
              refine am_kl (d_gotail_61 (by omega) (hV.fr (fun a ha => ?_)) (c := q.1) hpl hcn p5 b5 ?_) hlv
              · exact (((am_fr.rf.pi).pi).pi (b := 61)).1 a (by omega)
              · exact ⟨rfl, (((((am_fr.rf.pi).pi).pi).pi).pi), ⟨p1, p2, p3, p4, p5⟩, plc_free hV hcn b5 hk1, rfl, rfl, q4, q5, rfl⟩
            cases ev with
            | true =>
              have he : s % 2 = 0 := hev.mp rfl
              rw [if_pos he] at hl
              refine am_top (y := 1) rfl ?_
              iterate 12 (first | refine am_g0 rfl rfl ?_ | refine am_go rfl ?_)
              refine am_tt (show w.1 12 3 ≤ w.1 61 3 by rw [hV.2.1, p2, ← hl]; exact nI_le (by omega) (by omega)) ?_
              exact fin _ rfl
            | false =>
              have he : ¬ s % 2 = 0 := fun z => by have := hev.mpr z; cases this
              rw [if_neg he] at hl
              refine am_top (y := 0) rfl ?_
              iterate 11 (first | refine am_g0 rfl rfl ?_ | refine am_go rfl ?_)
              refine am_tt (show w.1 12 3 ≤ w.1 61 4 by rw [hV.2.1, p3, ← hl]; exact nI_le (by omega) (by omega)) ?_
              exact fin _ rfl
        iterate 4 (first | refine am_g0 rfl rfl ?_ | refine am_go rfl ?_)
        refine am_top (y := nI (s % 2)) (pk_rem (d := 2) (by omega) (by omega) (by omega)) ?_
        iterate 1 (first | refine am_g0 rfl rfl ?_ | refine am_go rfl ?_)
        by_cases he : s % 2 = 0
        · refine am_tt (show nI (s % 2) = 0 by rw [he]; rfl) ?_
          iterate 2 (first | refine am_g0 rfl rfl ?_ | refine am_go rfl ?_)
          exact am_kl (foot true _ _ ⟨fun _ => he, fun _ => rfl⟩ rfl rfl) rfl
        · refine am_ff (show ¬ nI (s % 2) = 0 from nI_ne0 (by omega) (by omega)) ?_
          iterate 1 (first | refine am_g0 rfl rfl ?_ | refine am_go rfl ?_)
          exact am_kl (foot false _ _ ⟨fun z => (Bool.false_ne_true z).elim, fun z => absurd z he⟩ rfl rfl) rfl
    cases r with
    | true =>
      iterate 8 (first | refine am_g0 rfl rfl ?_ | refine am_go rfl ?_)
      exact am_kl (key 0 rfl) rfl
    | false =>
      iterate 13 (first | refine am_g0 rfl rfl ?_ | refine am_go rfl ?_)
      refine am_top (y := nI (q.2.2.1 + 2 ^ P.2.2.2.1)) (show w.1 61 9 + (1 : Int32) <<< (w.1 61 5 &&& 31) = _ by rw [q3, p4, shl_one b4, nI_add]) ?_
      exact am_kl (key _ rfl) rfl
  · refine am_ff (show ¬ w.1 61 8 = 0 by rw [q2]; exact nI_ne0 (by omega) (by omega)) ?_
    iterate 1 (first | refine am_g0 rfl rfl ?_ | refine am_go rfl ?_)
    have hg : goS V P s r q = (q, none) := by unfold goS; rw [if_pos h0]
    rw [hg]
    exact ⟨rfl, rfl, am_fr.rf.pi, ⟨p1, p2, p3, p4, p5⟩, q1, q2, q3, q4, q5, rfl⟩
theorem d_gotail_62 {d : Nat} {V : Wd} {w : am_M} {c a : Nat} {x : Int32} {Φ : am_O → Prop} (hd : 1 ≤ d) (hV : cV w V) (hc : w.1 62 7 = nI c) (hcn : c < V.1) (hx : x = nI a) (ha : a < 4) (hΦ : Φ (none, am_pi (am_pi w 62 7 (nI (V.2.2.1 c a))) 62 8 (nI (stOf (V.2.1 (V.2.2.1 c a)))))) : am_R shC mi_X10_go (am_D shC d) Φ 186 [(0, .ref 62), (3, .int x)] [] w := by
  have hT := hV.1
  subst hx
  iterate 7 (first | refine am_g0 rfl rfl ?_ | refine am_go rfl ?_)
  rw [hc]
  refine ⟨(some (.int (nI (V.2.2.1 c a))), w), d_nextOf hd hT hcn ha, ?_⟩
  iterate 7 (first | refine am_g0 rfl rfl ?_ | refine am_go rfl ?_)
  refine ⟨(some (.int (nI (stOf (V.2.1 (V.2.2.1 c a))))), _), d_stateOn_t hd (hT.fr (fun b hb => am_pi_row (by omega))) ((hT.2.2.2 c hcn a ha).2.1), ?_⟩
  iterate 2 (first | refine am_g0 rfl rfl ?_ | refine am_go rfl ?_)
  exact ⟨rfl, hΦ⟩
set_option maxHeartbeats 8000000 in
theorem d_go_62 {d : Nat} {V : Wd} {P : Pr} {q : Qs} {b0 : Option Nat} {s : Nat} {r : Bool} {w : am_M} (hd : 2 ≤ d) (hV : cV w V) (hP : wkP (w.1 62) P) (hPb : Pok P) (hQ : wkQ (w.1 62) q b0) (hq : qok V P q s) (hs : s < 30) : ∃ o : am_O, (o.1 = none ∧ am_fr 62 w o.2 ∧ wkP (o.2.1 62) P ∧ wkQ (o.2.1 62) (goS V P s r q).1 (goS V P s r q).2) ∧ am_D shC d mi_X10_go [.ref 62, .int (nI s), .int (if r then 1 else 0)] w o := by
  obtain ⟨p1, p2, p3, p4, p5⟩ := hP
  obtain ⟨q1, q2, q3, q4, q5, q6⟩ := hQ
  obtain ⟨b1, b2, b3, b4, b5⟩ := hPb
  obtain ⟨qa, qb, qc, qd, qe⟩ := hq
  have hsol := pow_bd P.2.2.2.1 b4
  refine am_dex (by omega) rfl rfl ?_
  iterate 6 (first | refine am_g0 rfl rfl ?_ | refine am_go rfl ?_)
  by_cases h0 : q.2.1 = 0
  · refine am_tt (show w.1 62 8 = 0 by rw [q2, h0]; rfl) ?_
    have hpl : w.1 62 7 = nI q.1 := by rw [q1]; unfold plc; rw [if_neg (by omega)]
    have hcn : q.1 < V.1 := (qb (by omega)).1
    have hk1 : V.2.1 q.1 ≠ 1 := fun z => by
      have := (qb (by omega)).2
      rw [z, h0] at this
      exact absurd this (by decide)
    have h3 : ([1, 3, 9, 27, 81, 243] : List Int32).getD (w.1 62 5).toNatClampNeg 0 = nI (3 ^ P.2.2.2.1) := by rw [p4, nI_clamp (by omega), List.getD_eq_getElem?_getD, hsol.2.2.2]; rfl
    have h3b : ¬ (w.1 62 5 < 0 ∨ 6 ≤ (w.1 62 5).toNatClampNeg) := by rw [p4]; exact nI_in b4 (by decide)
    -- the weight that is put on
    have key : ∀ W0 : Nat, W0 = (if r then 0 else q.2.2.1 + 2 ^ P.2.2.2.1) → am_R shC mi_X10_go (am_D shC (d - 1)) (fun o => o.1 = none ∧ am_fr 62 w o.2 ∧ wkP (o.2.1 62) P ∧ wkQ (o.2.1 62) (goS V P s r q).1 (goS V P s r q).2) 38 [(0, .ref 62), (1, .int (nI s)), (3, .int (w.1 62 6))] [.int (nI W0), .ref 62] (am_pi w 62 12 (-1)) := by
      intro W0 hW0
      have hW1 : W0 < 1000 := by rw [hW0]; split <;> omega
      iterate 7 (first | refine am_g0 rfl rfl ?_ | refine am_go rfl ?_)
      refine am_ff h3b ?_
      refine am_top h3 ?_
      iterate 1 (first | refine am_g0 rfl rfl ?_ | refine am_go rfl ?_)
      by_cases hw : W0 < 3 ^ P.2.2.2.1
      · refine am_tt (show nI W0 < nI (3 ^ P.2.2.2.1) from nI_lt hw (by omega)) ?_
        have hg : goS V P s r q = ((V.2.2.1 q.1 P.2.2.2.2, stOf (V.2.1 (V.2.2.1 q.1 P.2.2.2.2)), W0, q.2.2.2.1, q.2.2.2.2), none) := by unfold goS; rw [if_neg (by omega), ← hW0, if_pos hw]
        rw [hg]
        refine am_kl (d_gotail_62 (by omega) (hV.fr (fun a ha => ?_)) (c := q.1) hpl hcn p5 b5 ?_) rfl
        · exact ((am_fr.rf.pi).pi (b := 62)).1 a (by omega)
        · exact ⟨rfl, ((((am_fr.rf.pi).pi).pi).pi), ⟨p1, p2, p3, p4, p5⟩, plc_free hV hcn b5 hk1, rfl, rfl, q4, q5, rfl⟩
      · refine am_ff (show ¬ nI W0 < nI (3 ^ P.2.2.2.1) from nI_nlt (by omega) (by omega)) ?_
        iterate 7 (first | refine am_g0 rfl rfl ?_ | refine am_go rfl ?_)
        refine am_ff h3b ?_
        refine am_top h3 ?_
        iterate 1 (first | refine am_g0 rfl rfl ?_ | refine am_go rfl ?_)
        refine am_top (y := nI (W0 - 3 ^ P.2.2.2.1)) (pk_sub (by omega)) ?_
        -- which foot
        have foot : ∀ (ev : Bool) (l t : Nat), (ev = true ↔ s % 2 = 0) → l = (if s % 2 = 0 then P.2.1 else P.2.2.1) → t = (if s % 2 = 0 then q.2.2.2.1 else q.2.2.2.2) → am_R shC mi_X10_go (am_D shC (d - 1)) (fun o => o.1 = none ∧ am_fr 62 w o.2 ∧ wkP (o.2.1 62) P ∧ wkQ (o.2.1 62) (goS V P s r q).1 (goS V P s r q).2) 84 [(0, .ref 62), (3, .int (w.1 62 6))] [.int (if ev then 1 else 0)] (am_pi (am_pi (am_pi w 62 12 (-1)) 62 9 (nI W0)) 62 9 (nI (W0 - 3 ^ P.2.2.2.1))) := by
          intro ev l t hev hl ht
          have hl8 : l < 8 := by rw [hl]; split <;> omega
          have ht30 : t ≤ s := by rw [ht]; split <;> omega
          have hlm : V.2.2.2.1 ≤ 8 := hV.2.2.1
          by_cases hm : l < V.2.2.2.1
          · have hlet := (hV.2.2.2 l hm).2.2.2.2.2 (t % V.2.2.2.2.2.1 l) (Nat.mod_lt _ (by have := (hV.2.2.2 l hm).2.2.2.1; omega))
            obtain ⟨A, hA⟩ : ∃ A, A = wayS (V.2.2.2.2.1 l) (V.2.2.2.2.2.1 l) (V.2.2.2.2.2.2 l) t := ⟨_, rfl⟩
            have hway : A < 4 := by rw [hA]; exact wayS_lt hlet.2
            have hg : goS V P s r q = ((V.2.2.1 q.1 A, stOf (V.2.1 (V.2.2.1 q.1 A)), W0 - 3 ^ P.2.2.2.1, q.2.2.2.1 + (if s % 2 = 0 then 1 else 0), q.2.2.2.2 + (if s % 2 = 0 then 0 else 1)), some l) := by unfold goS; rw [if_neg (by omega), ← hW0, if_neg hw, ← hl, ← ht, if_pos hm, ← hA]
            have call : ∀ w1 : am_M, (∀ a, a < 16 → w1.1 a = w.1 a) → am_D shC (d - 1) mi_X0_wayOf [.ref 12, .int (nI l), .int (nI t)] w1 (some (.int (nI A)), w1) := fun w1 h1 => by rw [hA]; exact d_wayOf (by omega) (hV.2.fr h1) hm (by omega)
            have hw1 : ∀ a, a < 16 → (am_pi (am_pi (am_pi w 62 12 (-1)) 62 9 (nI W0)) 62 9 (nI (W0 - 3 ^ P.2.2.2.1))).1 a = w.1 a := fun a ha => (((am_fr.rf.pi).pi).pi (b := 62)).1 a (by omega)
            cases ev with
            | true =>
              have he : s % 2 = 0 := hev.mp rfl
              rw [if_pos he] at hl ht
              refine am_top (y := 1) rfl ?_
              iterate 12 (first | refine am_g0 rfl rfl ?_ | refine am_go rfl ?_)
              refine am_ff (show ¬ w.1 12 3 ≤ w.1 62 3 by rw [hV.2.1, p2, ← hl]; exact nI_ge hm (by omega)) ?_
              iterate 9 (first | refine am_g0 rfl rfl ?_ | refine am_go rfl ?_)
              refine ⟨(some (.int (nI A)), am_pi (am_pi (am_pi w 62 12 (-1)) 62 9 (nI W0)) 62 9 (nI (W0 - 3 ^ P.2.2.2.1))), (show am_D shC (d - 1) mi_X0_wayOf [.ref 12, .int (w.1 62 3), .int (w.1 62 10)] _ _ by rw [p2, q4, ← hl, ← ht]; exact call _ hw1), ?_⟩
              refine am_to (lv' := [(0, .ref 62), (4, .int 1), (5, .int (w.1 62 3))]) (st' := [.int (nI A)]) (w' := am_pi (am_pi (am_pi w 62 12 (-1)) 62 9 (nI W0)) 62 9 (nI (W0 - 3 ^ P.2.2.2.1))) rfl rfl rfl ?_
              iterate 22 (first | refine am_g0 rfl rfl ?_ | refine am_go rfl ?_)
              rw [hg, if_pos he, if_pos he]
              refine am_kl (d_gotail_62 (by omega) (hV.fr (fun a ha => ?_)) (c := q.1) hpl hcn rfl hway ?_) rfl
              · exact ((((((am_fr.rf.pi).pi).pi).pi).pi).pi (b := 62)).1 a (by omega)
              · refine ⟨rfl, ((((((((am_fr.rf.pi).pi).pi).pi).pi).pi).pi).pi), ⟨p1, p2, p3, p4, p5⟩, plc_free hV hcn hway hk1, rfl, rfl, ?_, ?_, ?_⟩
                · show w.1 62 10 + 1 = _
                  rw [q4, nI_1]
                · show w.1 62 11 + 0 = _
                  rw [q5]; exact Int32.add_zero _
                · show w.1 62 3 = _
                  rw [p2, ← hl]; rfl
            | false =>
              have he : ¬ s % 2 = 0 := fun z => by have := hev.mpr z; cases this
              rw [if_neg he] at hl ht
              refine am_top (y := 0) rfl ?_
              iterate 11 (first | refine am_g0 rfl rfl ?_ | refine am_go rfl ?_)
              refine am_ff (show ¬ w.1 12 3 ≤ w.1 62 4 by rw [hV.2.1, p3, ← hl]; exact nI_ge hm (by omega)) ?_
              iterate 8 (first | refine am_g0 rfl rfl ?_ | refine am_go rfl ?_)
              refine ⟨(some (.int (nI A)), am_pi (am_pi (am_pi w 62 12 (-1)) 62 9 (nI W0)) 62 9 (nI (W0 - 3 ^ P.2.2.2.1))), (show am_D shC (d - 1) mi_X0_wayOf [.ref 12, .int (w.1 62 4), .int (w.1 62 11)] _ _ by rw [p3, q5, ← hl, ← ht]; exact call _ hw1), ?_⟩
              refine am_to (lv' := [(0, .ref 62), (4, .int 0), (5, .int (w.1 62 4))]) (st' := [.int (nI A)]) (w' := am_pi (am_pi (am_pi w 62 12 (-1)) 62 9 (nI W0)) 62 9 (nI (W0 - 3 ^ P.2.2.2.1))) rfl rfl rfl ?_
              iterate 20 (first | refine am_g0 rfl rfl ?_ | refine am_go rfl ?_)
              rw [hg, if_neg he, if_neg he]
              refine am_kl (d_gotail_62 (by omega) (hV.fr (fun a ha => ?_)) (c := q.1) hpl hcn rfl hway ?_) rfl
              · exact ((((((am_fr.rf.pi).pi).pi).pi).pi).pi (b := 62)).1 a (by omega)
              · refine ⟨rfl, ((((((((am_fr.rf.pi).pi).pi).pi).pi).pi).pi).pi), ⟨p1, p2, p3, p4, p5⟩, plc_free hV hcn hway hk1, rfl, rfl, ?_, ?_, ?_⟩
                · show w.1 62 10 + 0 = _
                  rw [q4]; exact Int32.add_zero _
                · show w.1 62 11 + 1 = _
                  rw [q5, nI_1]
                · show w.1 62 4 = _
                  rw [p3, ← hl]; rfl
          · have hg : goS V P s r q = ((V.2.2.1 q.1 P.2.2.2.2, stOf (V.2.1 (V.2.2.1 q.1 P.2.2.2.2)), W0 - 3 ^ P.2.2.2.1, q.2.2.2.1, q.2.2.2.2), none) := by unfold goS; rw [if_neg (by omega), ← hW0, if_neg hw, ← hl, if_neg hm]
            have fin : ∀ lv, am_kill mi_X10_go 186 lv = [(0, .ref 62), (3, .int (w.1 62 6))] → am_R shC mi_X10_go (am_D shC (d - 1)) (fun o => o.1 = none ∧ am_fr 62 w o.2 ∧ wkP (o.2.1 62) P ∧ wkQ (o.2.1 62) (goS V P s r q).1 (goS V P s r q).2) 186 lv [] (am_pi (am_pi (am_pi w 62 12 (-1)) 62 9 (nI W0)) 62 9 (nI (W0 - 3 ^ P.2.2.2.1))) := by
              intro lv hlv
              rw [hg]
              refine am_kl (d_gotail_62 (by omega) (hV.fr (fun a ha => ?_)) (c := q.1) hpl hcn p5 b5 ?_) hlv
              · exact (((am_fr.rf.pi).pi).pi (b := 62)).1 a (by omega)
              · exact ⟨rfl, (((((am_fr.rf.pi).pi).pi).pi).pi), ⟨p1, p2, p3, p4, p5⟩, plc_free hV hcn b5 hk1, rfl, rfl, q4, q5, rfl⟩
            cases ev with
            | true =>
              have he : s % 2 = 0 := hev.mp rfl
              rw [if_pos he] at hl
              refine am_top (y := 1) rfl ?_
              iterate 12 (first | refine am_g0 rfl rfl ?_ | refine am_go rfl ?_)
              refine am_tt (show w.1 12 3 ≤ w.1 62 3 by rw [hV.2.1, p2, ← hl]; exact nI_le (by omega) (by omega)) ?_
              exact fin _ rfl
            | false =>
              have he : ¬ s % 2 = 0 := fun z => by have := hev.mpr z; cases this
              rw [if_neg he] at hl
              refine am_top (y := 0) rfl ?_
              iterate 11 (first | refine am_g0 rfl rfl ?_ | refine am_go rfl ?_)
              refine am_tt (show w.1 12 3 ≤ w.1 62 4 by rw [hV.2.1, p3, ← hl]; exact nI_le (by omega) (by omega)) ?_
              exact fin _ rfl
        iterate 4 (first | refine am_g0 rfl rfl ?_ | refine am_go rfl ?_)
        refine am_top (y := nI (s % 2)) (pk_rem (d := 2) (by omega) (by omega) (by omega)) ?_
        iterate 1 (first | refine am_g0 rfl rfl ?_ | refine am_go rfl ?_)
        by_cases he : s % 2 = 0
        · refine am_tt (show nI (s % 2) = 0 by rw [he]; rfl) ?_
          iterate 2 (first | refine am_g0 rfl rfl ?_ | refine am_go rfl ?_)
          exact am_kl (foot true _ _ ⟨fun _ => he, fun _ => rfl⟩ rfl rfl) rfl
        · refine am_ff (show ¬ nI (s % 2) = 0 from nI_ne0 (by omega) (by omega)) ?_
          iterate 1 (first | refine am_g0 rfl rfl ?_ | refine am_go rfl ?_)
          exact am_kl (foot false _ _ ⟨fun z => (Bool.false_ne_true z).elim, fun z => absurd z he⟩ rfl rfl) rfl
    cases r with
    | true =>
      iterate 8 (first | refine am_g0 rfl rfl ?_ | refine am_go rfl ?_)
      exact am_kl (key 0 rfl) rfl
    | false =>
      iterate 13 (first | refine am_g0 rfl rfl ?_ | refine am_go rfl ?_)
      refine am_top (y := nI (q.2.2.1 + 2 ^ P.2.2.2.1)) (show w.1 62 9 + (1 : Int32) <<< (w.1 62 5 &&& 31) = _ by rw [q3, p4, shl_one b4, nI_add]) ?_
      exact am_kl (key _ rfl) rfl
  · refine am_ff (show ¬ w.1 62 8 = 0 by rw [q2]; exact nI_ne0 (by omega) (by omega)) ?_
    iterate 1 (first | refine am_g0 rfl rfl ?_ | refine am_go rfl ?_)
    have hg : goS V P s r q = (q, none) := by unfold goS; rw [if_pos h0]
    rw [hg]
    exact ⟨rfl, rfl, am_fr.rf.pi, ⟨p1, p2, p3, p4, p5⟩, q1, q2, q3, q4, q5, rfl⟩
theorem d_gotail_63 {d : Nat} {V : Wd} {w : am_M} {c a : Nat} {x : Int32} {Φ : am_O → Prop} (hd : 1 ≤ d) (hV : cV w V) (hc : w.1 63 7 = nI c) (hcn : c < V.1) (hx : x = nI a) (ha : a < 4) (hΦ : Φ (none, am_pi (am_pi w 63 7 (nI (V.2.2.1 c a))) 63 8 (nI (stOf (V.2.1 (V.2.2.1 c a)))))) : am_R shC mi_X10_go (am_D shC d) Φ 186 [(0, .ref 63), (3, .int x)] [] w := by
  have hT := hV.1
  subst hx
  iterate 7 (first | refine am_g0 rfl rfl ?_ | refine am_go rfl ?_)
  rw [hc]
  refine ⟨(some (.int (nI (V.2.2.1 c a))), w), d_nextOf hd hT hcn ha, ?_⟩
  iterate 7 (first | refine am_g0 rfl rfl ?_ | refine am_go rfl ?_)
  refine ⟨(some (.int (nI (stOf (V.2.1 (V.2.2.1 c a))))), _), d_stateOn_t hd (hT.fr (fun b hb => am_pi_row (by omega))) ((hT.2.2.2 c hcn a ha).2.1), ?_⟩
  iterate 2 (first | refine am_g0 rfl rfl ?_ | refine am_go rfl ?_)
  exact ⟨rfl, hΦ⟩
set_option maxHeartbeats 8000000 in
theorem d_go_63 {d : Nat} {V : Wd} {P : Pr} {q : Qs} {b0 : Option Nat} {s : Nat} {r : Bool} {w : am_M} (hd : 2 ≤ d) (hV : cV w V) (hP : wkP (w.1 63) P) (hPb : Pok P) (hQ : wkQ (w.1 63) q b0) (hq : qok V P q s) (hs : s < 30) : ∃ o : am_O, (o.1 = none ∧ am_fr 63 w o.2 ∧ wkP (o.2.1 63) P ∧ wkQ (o.2.1 63) (goS V P s r q).1 (goS V P s r q).2) ∧ am_D shC d mi_X10_go [.ref 63, .int (nI s), .int (if r then 1 else 0)] w o := by
  obtain ⟨p1, p2, p3, p4, p5⟩ := hP
  obtain ⟨q1, q2, q3, q4, q5, q6⟩ := hQ
  obtain ⟨b1, b2, b3, b4, b5⟩ := hPb
  obtain ⟨qa, qb, qc, qd, qe⟩ := hq
  have hsol := pow_bd P.2.2.2.1 b4
  refine am_dex (by omega) rfl rfl ?_
  iterate 6 (first | refine am_g0 rfl rfl ?_ | refine am_go rfl ?_)
  by_cases h0 : q.2.1 = 0
  · refine am_tt (show w.1 63 8 = 0 by rw [q2, h0]; rfl) ?_
    have hpl : w.1 63 7 = nI q.1 := by rw [q1]; unfold plc; rw [if_neg (by omega)]
    have hcn : q.1 < V.1 := (qb (by omega)).1
    have hk1 : V.2.1 q.1 ≠ 1 := fun z => by
      have := (qb (by omega)).2
      rw [z, h0] at this
      exact absurd this (by decide)
    have h3 : ([1, 3, 9, 27, 81, 243] : List Int32).getD (w.1 63 5).toNatClampNeg 0 = nI (3 ^ P.2.2.2.1) := by rw [p4, nI_clamp (by omega), List.getD_eq_getElem?_getD, hsol.2.2.2]; rfl
    have h3b : ¬ (w.1 63 5 < 0 ∨ 6 ≤ (w.1 63 5).toNatClampNeg) := by rw [p4]; exact nI_in b4 (by decide)
    -- the weight that is put on
    have key : ∀ W0 : Nat, W0 = (if r then 0 else q.2.2.1 + 2 ^ P.2.2.2.1) → am_R shC mi_X10_go (am_D shC (d - 1)) (fun o => o.1 = none ∧ am_fr 63 w o.2 ∧ wkP (o.2.1 63) P ∧ wkQ (o.2.1 63) (goS V P s r q).1 (goS V P s r q).2) 38 [(0, .ref 63), (1, .int (nI s)), (3, .int (w.1 63 6))] [.int (nI W0), .ref 63] (am_pi w 63 12 (-1)) := by
      intro W0 hW0
      have hW1 : W0 < 1000 := by rw [hW0]; split <;> omega
      iterate 7 (first | refine am_g0 rfl rfl ?_ | refine am_go rfl ?_)
      refine am_ff h3b ?_
      refine am_top h3 ?_
      iterate 1 (first | refine am_g0 rfl rfl ?_ | refine am_go rfl ?_)
      by_cases hw : W0 < 3 ^ P.2.2.2.1
      · refine am_tt (show nI W0 < nI (3 ^ P.2.2.2.1) from nI_lt hw (by omega)) ?_
        have hg : goS V P s r q = ((V.2.2.1 q.1 P.2.2.2.2, stOf (V.2.1 (V.2.2.1 q.1 P.2.2.2.2)), W0, q.2.2.2.1, q.2.2.2.2), none) := by unfold goS; rw [if_neg (by omega), ← hW0, if_pos hw]
        rw [hg]
        refine am_kl (d_gotail_63 (by omega) (hV.fr (fun a ha => ?_)) (c := q.1) hpl hcn p5 b5 ?_) rfl
        · exact ((am_fr.rf.pi).pi (b := 63)).1 a (by omega)
        · exact ⟨rfl, ((((am_fr.rf.pi).pi).pi).pi), ⟨p1, p2, p3, p4, p5⟩, plc_free hV hcn b5 hk1, rfl, rfl, q4, q5, rfl⟩
      · refine am_ff (show ¬ nI W0 < nI (3 ^ P.2.2.2.1) from nI_nlt (by omega) (by omega)) ?_
        iterate 7 (first | refine am_g0 rfl rfl ?_ | refine am_go rfl ?_)
        refine am_ff h3b ?_
        refine am_top h3 ?_
        iterate 1 (first | refine am_g0 rfl rfl ?_ | refine am_go rfl ?_)
        refine am_top (y := nI (W0 - 3 ^ P.2.2.2.1)) (pk_sub (by omega)) ?_
        -- which foot
        have foot : ∀ (ev : Bool) (l t : Nat), (ev = true ↔ s % 2 = 0) → l = (if s % 2 = 0 then P.2.1 else P.2.2.1) → t = (if s % 2 = 0 then q.2.2.2.1 else q.2.2.2.2) → am_R shC mi_X10_go (am_D shC (d - 1)) (fun o => o.1 = none ∧ am_fr 63 w o.2 ∧ wkP (o.2.1 63) P ∧ wkQ (o.2.1 63) (goS V P s r q).1 (goS V P s r q).2) 84 [(0, .ref 63), (3, .int (w.1 63 6))] [.int (if ev then 1 else 0)] (am_pi (am_pi (am_pi w 63 12 (-1)) 63 9 (nI W0)) 63 9 (nI (W0 - 3 ^ P.2.2.2.1))) := by
          intro ev l t hev hl ht
          have hl8 : l < 8 := by rw [hl]; split <;> omega
          have ht30 : t ≤ s := by rw [ht]; split <;> omega
          have hlm : V.2.2.2.1 ≤ 8 := hV.2.2.1
          by_cases hm : l < V.2.2.2.1
          · have hlet := (hV.2.2.2 l hm).2.2.2.2.2 (t % V.2.2.2.2.2.1 l) (Nat.mod_lt _ (by have := (hV.2.2.2 l hm).2.2.2.1; omega))
            obtain ⟨A, hA⟩ : ∃ A, A = wayS (V.2.2.2.2.1 l) (V.2.2.2.2.2.1 l) (V.2.2.2.2.2.2 l) t := ⟨_, rfl⟩
            have hway : A < 4 := by rw [hA]; exact wayS_lt hlet.2
            have hg : goS V P s r q = ((V.2.2.1 q.1 A, stOf (V.2.1 (V.2.2.1 q.1 A)), W0 - 3 ^ P.2.2.2.1, q.2.2.2.1 + (if s % 2 = 0 then 1 else 0), q.2.2.2.2 + (if s % 2 = 0 then 0 else 1)), some l) := by unfold goS; rw [if_neg (by omega), ← hW0, if_neg hw, ← hl, ← ht, if_pos hm, ← hA]
            have call : ∀ w1 : am_M, (∀ a, a < 16 → w1.1 a = w.1 a) → am_D shC (d - 1) mi_X0_wayOf [.ref 12, .int (nI l), .int (nI t)] w1 (some (.int (nI A)), w1) := fun w1 h1 => by rw [hA]; exact d_wayOf (by omega) (hV.2.fr h1) hm (by omega)
            have hw1 : ∀ a, a < 16 → (am_pi (am_pi (am_pi w 63 12 (-1)) 63 9 (nI W0)) 63 9 (nI (W0 - 3 ^ P.2.2.2.1))).1 a = w.1 a := fun a ha => (((am_fr.rf.pi).pi).pi (b := 63)).1 a (by omega)
            cases ev with
            | true =>
              have he : s % 2 = 0 := hev.mp rfl
              rw [if_pos he] at hl ht
              refine am_top (y := 1) rfl ?_
              iterate 12 (first | refine am_g0 rfl rfl ?_ | refine am_go rfl ?_)
              refine am_ff (show ¬ w.1 12 3 ≤ w.1 63 3 by rw [hV.2.1, p2, ← hl]; exact nI_ge hm (by omega)) ?_
              iterate 9 (first | refine am_g0 rfl rfl ?_ | refine am_go rfl ?_)
              refine ⟨(some (.int (nI A)), am_pi (am_pi (am_pi w 63 12 (-1)) 63 9 (nI W0)) 63 9 (nI (W0 - 3 ^ P.2.2.2.1))), (show am_D shC (d - 1) mi_X0_wayOf [.ref 12, .int (w.1 63 3), .int (w.1 63 10)] _ _ by rw [p2, q4, ← hl, ← ht]; exact call _ hw1), ?_⟩
              refine am_to (lv' := [(0, .ref 63), (4, .int 1), (5, .int (w.1 63 3))]) (st' := [.int (nI A)]) (w' := am_pi (am_pi (am_pi w 63 12 (-1)) 63 9 (nI W0)) 63 9 (nI (W0 - 3 ^ P.2.2.2.1))) rfl rfl rfl ?_
              iterate 22 (first | refine am_g0 rfl rfl ?_ | refine am_go rfl ?_)
              rw [hg, if_pos he, if_pos he]
              refine am_kl (d_gotail_63 (by omega) (hV.fr (fun a ha => ?_)) (c := q.1) hpl hcn rfl hway ?_) rfl
              · exact ((((((am_fr.rf.pi).pi).pi).pi).pi).pi (b := 63)).1 a (by omega)
              · refine ⟨rfl, ((((((((am_fr.rf.pi).pi).pi).pi).pi).pi).pi).pi), ⟨p1, p2, p3, p4, p5⟩, plc_free hV hcn hway hk1, rfl, rfl, ?_, ?_, ?_⟩
                · show w.1 63 10 + 1 = _
                  rw [q4, nI_1]
                · show w.1 63 11 + 0 = _
                  rw [q5]; exact Int32.add_zero _
                · show w.1 63 3 = _
                  rw [p2, ← hl]; rfl
            | false =>
              have he : ¬ s % 2 = 0 := fun z => by have := hev.mpr z; cases this
              rw [if_neg he] at hl ht
              refine am_top (y := 0) rfl ?_
              iterate 11 (first | refine am_g0 rfl rfl ?_ | refine am_go rfl ?_)
              refine am_ff (show ¬ w.1 12 3 ≤ w.1 63 4 by rw [hV.2.1, p3, ← hl]; exact nI_ge hm (by omega)) ?_
              iterate 8 (first | refine am_g0 rfl rfl ?_ | refine am_go rfl ?_)
              refine ⟨(some (.int (nI A)), am_pi (am_pi (am_pi w 63 12 (-1)) 63 9 (nI W0)) 63 9 (nI (W0 - 3 ^ P.2.2.2.1))), (show am_D shC (d - 1) mi_X0_wayOf [.ref 12, .int (w.1 63 4), .int (w.1 63 11)] _ _ by rw [p3, q5, ← hl, ← ht]; exact call _ hw1), ?_⟩
              refine am_to (lv' := [(0, .ref 63), (4, .int 0), (5, .int (w.1 63 4))]) (st' := [.int (nI A)]) (w' := am_pi (am_pi (am_pi w 63 12 (-1)) 63 9 (nI W0)) 63 9 (nI (W0 - 3 ^ P.2.2.2.1))) rfl rfl rfl ?_
              iterate 20 (first | refine am_g0 rfl rfl ?_ | refine am_go rfl ?_)
              rw [hg, if_neg he, if_neg he]
              refine am_kl (d_gotail_63 (by omega) (hV.fr (fun a ha => ?_)) (c := q.1) hpl hcn rfl hway ?_) rfl
              · exact ((((((am_fr.rf.pi).pi).pi).pi).pi).pi (b := 63)).1 a (by omega)
              · refine ⟨rfl, ((((((((am_fr.rf.pi).pi).pi).pi).pi).pi).pi).pi), ⟨p1, p2, p3, p4, p5⟩, plc_free hV hcn hway hk1, rfl, rfl, ?_, ?_, ?_⟩
                · show w.1 63 10 + 0 = _
                  rw [q4]; exact Int32.add_zero _
                · show w.1 63 11 + 1 = _
                  rw [q5, nI_1]
                · show w.1 63 4 = _
                  rw [p3, ← hl]; rfl
          · have hg : goS V P s r q = ((V.2.2.1 q.1 P.2.2.2.2, stOf (V.2.1 (V.2.2.1 q.1 P.2.2.2.2)), W0 - 3 ^ P.2.2.2.1, q.2.2.2.1, q.2.2.2.2), none) := by unfold goS; rw [if_neg (by omega), ← hW0, if_neg hw, ← hl, if_neg hm]
            have fin : ∀ lv, am_kill mi_X10_go 186 lv = [(0, .ref 63), (3, .int (w.1 63 6))] → am_R shC mi_X10_go (am_D shC (d - 1)) (fun o => o.1 = none ∧ am_fr 63 w o.2 ∧ wkP (o.2.1 63) P ∧ wkQ (o.2.1 63) (goS V P s r q).1 (goS V P s r q).2) 186 lv [] (am_pi (am_pi (am_pi w 63 12 (-1)) 63 9 (nI W0)) 63 9 (nI (W0 - 3 ^ P.2.2.2.1))) := by
              intro lv hlv
              rw [hg]
              refine am_kl (d_gotail_63 (by omega) (hV.fr (fun a ha => ?_)) (c := q.1) hpl hcn p5 b5 ?_) hlv
              · exact (((am_fr.rf.pi).pi).pi (b := 63)).1 a (by omega)
              · exact ⟨rfl, (((((am_fr.rf.pi).pi).pi).pi).pi), ⟨p1, p2, p3, p4, p5⟩, plc_free hV hcn b5 hk1, rfl, rfl, q4, q5, rfl⟩
            cases ev with
            | true =>
              have he : s % 2 = 0 := hev.mp rfl
              rw [if_pos he] at hl
              refine am_top (y := 1) rfl ?_
              iterate 12 (first | refine am_g0 rfl rfl ?_ | refine am_go rfl ?_)
              refine am_tt (show w.1 12 3 ≤ w.1 63 3 by rw [hV.2.1, p2, ← hl]; exact nI_le (by omega) (by omega)) ?_
              exact fin _ rfl
            | false =>
              have he : ¬ s % 2 = 0 := fun z => by have := hev.mpr z; cases this
              rw [if_neg he] at hl
              refine am_top (y := 0) rfl ?_
              iterate 11 (first | refine am_g0 rfl rfl ?_ | refine am_go rfl ?_)
              refine am_tt (show w.1 12 3 ≤ w.1 63 4 by rw [hV.2.1, p3, ← hl]; exact nI_le (by omega) (by omega)) ?_
              exact fin _ rfl
        iterate 4 (first | refine am_g0 rfl rfl ?_ | refine am_go rfl ?_)
        refine am_top (y := nI (s % 2)) (pk_rem (d := 2) (by omega) (by omega) (by omega)) ?_
        iterate 1 (first | refine am_g0 rfl rfl ?_ | refine am_go rfl ?_)
        by_cases he : s % 2 = 0
        · refine am_tt (show nI (s % 2) = 0 by rw [he]; rfl) ?_
          iterate 2 (first | refine am_g0 rfl rfl ?_ | refine am_go rfl ?_)
          exact am_kl (foot true _ _ ⟨fun _ => he, fun _ => rfl⟩ rfl rfl) rfl
        · refine am_ff (show ¬ nI (s % 2) = 0 from nI_ne0 (by omega) (by omega)) ?_
          iterate 1 (first | refine am_g0 rfl rfl ?_ | refine am_go rfl ?_)
          exact am_kl (foot false _ _ ⟨fun z => (Bool.false_ne_true z).elim, fun z => absurd z he⟩ rfl rfl) rfl
    cases r with
    | true =>
      iterate 8 (first | refine am_g0 rfl rfl ?_ | refine am_go rfl ?_)
      exact am_kl (key 0 rfl) rfl
    | false =>
      iterate 13 (first | refine am_g0 rfl rfl ?_ | refine am_go rfl ?_)
      refine am_top (y := nI (q.2.2.1 + 2 ^ P.2.2.2.1)) (show w.1 63 9 + (1 : Int32) <<< (w.1 63 5 &&& 31) = _ by rw [q3, p4, shl_one b4, nI_add]) ?_
      exact am_kl (key _ rfl) rfl
  · refine am_ff (show ¬ w.1 63 8 = 0 by rw [q2]; exact nI_ne0 (by omega) (by omega)) ?_
    iterate 1 (first | refine am_g0 rfl rfl ?_ | refine am_go rfl ?_)
    have hg : goS V P s r q = (q, none) := by unfold goS; rw [if_pos h0]
    rw [hg]
    exact ⟨rfl, rfl, am_fr.rf.pi, ⟨p1, p2, p3, p4, p5⟩, q1, q2, q3, q4, q5, rfl⟩
theorem d_gotail_64 {d : Nat} {V : Wd} {w : am_M} {c a : Nat} {x : Int32} {Φ : am_O → Prop} (hd : 1 ≤ d) (hV : cV w V) (hc : w.1 64 7 = nI c) (hcn : c < V.1) (hx : x = nI a) (ha : a < 4) (hΦ : Φ (none, am_pi (am_pi w 64 7 (nI (V.2.2.1 c a))) 64 8 (nI (stOf (V.2.1 (V.2.2.1 c a)))))) : am_R shC mi_X10_go (am_D shC d) Φ 186 [(0, .ref 64), (3, .int x)] [] w := by
  have hT := hV.1
  subst hx
  iterate 7 (first | refine am_g0 rfl rfl ?_ | refine am_go rfl ?_)
  rw [hc]
  refine ⟨(some (.int (nI (V.2.2.1 c a))), w), d_nextOf hd hT hcn ha, ?_⟩
  iterate 7 (first | refine am_g0 rfl rfl ?_ | refine am_go rfl ?_)
  refine ⟨(some (.int (nI (stOf (V.2.1 (V.2.2.1 c a))))), _), d_stateOn_t hd (hT.fr (fun b hb => am_pi_row (by omega))) ((hT.2.2.2 c hcn a ha).2.1), ?_⟩
  iterate 2 (first | refine am_g0 rfl rfl ?_ | refine am_go rfl ?_)
  exact ⟨rfl, hΦ⟩
set_option maxHeartbeats 8000000 in
theorem d_go_64 {d : Nat} {V : Wd} {P : Pr} {q : Qs} {b0 : Option Nat} {s : Nat} {r : Bool} {w : am_M} (hd : 2 ≤ d) (hV : cV w V) (hP : wkP (w.1 64) P) (hPb : Pok P) (hQ : wkQ (w.1 64) q b0) (hq : qok V P q s) (hs : s < 30) : ∃ o : am_O, (o.1 = none ∧ am_fr 64 w o.2 ∧ wkP (o.2.1 64) P ∧ wkQ (o.2.1 64) (goS V P s r q).1 (goS V P s r q).2) ∧ am_D shC d mi_X10_go [.ref 64, .int (nI s), .int (if r then 1 else 0)] w o := by
  obtain ⟨p1, p2, p3, p4, p5⟩ := hP
  obtain ⟨q1, q2, q3, q4, q5, q6⟩ := hQ
  obtain ⟨b1, b2, b3, b4, b5⟩ := hPb
  obtain ⟨qa, qb, qc, qd, qe⟩ := hq
  have hsol := pow_bd P.2.2.2.1 b4
  refine am_dex (by omega) rfl rfl ?_
  iterate 6 (first | refine am_g0 rfl rfl ?_ | refine am_go rfl ?_)
  by_cases h0 : q.2.1 = 0
  · refine am_tt (show w.1 64 8 = 0 by rw [q2, h0]; rfl) ?_
    have hpl : w.1 64 7 = nI q.1 := by rw [q1]; unfold plc; rw [if_neg (by omega)]
    have hcn : q.1 < V.1 := (qb (by omega)).1
    have hk1 : V.2.1 q.1 ≠ 1 := fun z => by
      have := (qb (by omega)).2
      rw [z, h0] at this
      exact absurd this (by decide)
    have h3 : ([1, 3, 9, 27, 81, 243] : List Int32).getD (w.1 64 5).toNatClampNeg 0 = nI (3 ^ P.2.2.2.1) := by rw [p4, nI_clamp (by omega), List.getD_eq_getElem?_getD, hsol.2.2.2]; rfl
    have h3b : ¬ (w.1 64 5 < 0 ∨ 6 ≤ (w.1 64 5).toNatClampNeg) := by rw [p4]; exact nI_in b4 (by decide)
    -- the weight that is put on
    have key : ∀ W0 : Nat, W0 = (if r then 0 else q.2.2.1 + 2 ^ P.2.2.2.1) → am_R shC mi_X10_go (am_D shC (d - 1)) (fun o => o.1 = none ∧ am_fr 64 w o.2 ∧ wkP (o.2.1 64) P ∧ wkQ (o.2.1 64) (goS V P s r q).1 (goS V P s r q).2) 38 [(0, .ref 64), (1, .int (nI s)), (3, .int (w.1 64 6))] [.int (nI W0), .ref 64] (am_pi w 64 12 (-1)) := by
      intro W0 hW0
      have hW1 : W0 < 1000 := by rw [hW0]; split <;> omega
      iterate 7 (first | refine am_g0 rfl rfl ?_ | refine am_go rfl ?_)
      refine am_ff h3b ?_
      refine am_top h3 ?_
      iterate 1 (first | refine am_g0 rfl rfl ?_ | refine am_go rfl ?_)
      by_cases hw : W0 < 3 ^ P.2.2.2.1
      · refine am_tt (show nI W0 < nI (3 ^ P.2.2.2.1) from nI_lt hw (by omega)) ?_
        have hg : goS V P s r q = ((V.2.2.1 q.1 P.2.2.2.2, stOf (V.2.1 (V.2.2.1 q.1 P.2.2.2.2)), W0, q.2.2.2.1, q.2.2.2.2), none) := by unfold goS; rw [if_neg (by omega), ← hW0, if_pos hw]
        rw [hg]
        refine am_kl (d_gotail_64 (by omega) (hV.fr (fun a ha => ?_)) (c := q.1) hpl hcn p5 b5 ?_) rfl
        · exact ((am_fr.rf.pi).pi (b := 64)).1 a (by omega)
        · exact ⟨rfl, ((((am_fr.rf.pi).pi).pi).pi), ⟨p1, p2, p3, p4, p5⟩, plc_free hV hcn b5 hk1, rfl, rfl, q4, q5, rfl⟩
      · refine am_ff (show ¬ nI W0 < nI (3 ^ P.2.2.2.1) from nI_nlt (by omega) (by omega)) ?_
        iterate 7 (first | refine am_g0 rfl rfl ?_ | refine am_go rfl ?_)
        refine am_ff h3b ?_
        refine am_top h3 ?_
        iterate 1 (first | refine am_g0 rfl rfl ?_ | refine am_go rfl ?_)
        refine am_top (y := nI (W0 - 3 ^ P.2.2.2.1)) (pk_sub (by omega)) ?_
        -- which foot
        have foot : ∀ (ev : Bool) (l t : Nat), (ev = true ↔ s % 2 = 0) → l = (if s % 2 = 0 then P.2.1 else P.2.2.1) → t = (if s % 2 = 0 then q.2.2.2.1 else q.2.2.2.2) → am_R shC mi_X10_go (am_D shC (d - 1)) (fun o => o.1 = none ∧ am_fr 64 w o.2 ∧ wkP (o.2.1 64) P ∧ wkQ (o.2.1 64) (goS V P s r q).1 (goS V P s r q).2) 84 [(0, .ref 64), (3, .int (w.1 64 6))] [.int (if ev then 1 else 0)] (am_pi (am_pi (am_pi w 64 12 (-1)) 64 9 (nI W0)) 64 9 (nI (W0 - 3 ^ P.2.2.2.1))) := by
          intro ev l t hev hl ht
          have hl8 : l < 8 := by rw [hl]; split <;> omega
          have ht30 : t ≤ s := by rw [ht]; split <;> omega
          have hlm : V.2.2.2.1 ≤ 8 := hV.2.2.1
          by_cases hm : l < V.2.2.2.1
          · have hlet := (hV.2.2.2 l hm).2.2.2.2.2 (t % V.2.2.2.2.2.1 l) (Nat.mod_lt _ (by have := (hV.2.2.2 l hm).2.2.2.1; omega))
            obtain ⟨A, hA⟩ : ∃ A, A = wayS (V.2.2.2.2.1 l) (V.2.2.2.2.2.1 l) (V.2.2.2.2.2.2 l) t := ⟨_, rfl⟩
            have hway : A < 4 := by rw [hA]; exact wayS_lt hlet.2
            have hg : goS V P s r q = ((V.2.2.1 q.1 A, stOf (V.2.1 (V.2.2.1 q.1 A)), W0 - 3 ^ P.2.2.2.1, q.2.2.2.1 + (if s % 2 = 0 then 1 else 0), q.2.2.2.2 + (if s % 2 = 0 then 0 else 1)), some l) := by unfold goS; rw [if_neg (by omega), ← hW0, if_neg hw, ← hl, ← ht, if_pos hm, ← hA]
            have call : ∀ w1 : am_M, (∀ a, a < 16 → w1.1 a = w.1 a) → am_D shC (d - 1) mi_X0_wayOf [.ref 12, .int (nI l), .int (nI t)] w1 (some (.int (nI A)), w1) := fun w1 h1 => by rw [hA]; exact d_wayOf (by omega) (hV.2.fr h1) hm (by omega)
            have hw1 : ∀ a, a < 16 → (am_pi (am_pi (am_pi w 64 12 (-1)) 64 9 (nI W0)) 64 9 (nI (W0 - 3 ^ P.2.2.2.1))).1 a = w.1 a := fun a ha => (((am_fr.rf.pi).pi).pi (b := 64)).1 a (by omega)
            cases ev with
            | true =>
              have he : s % 2 = 0 := hev.mp rfl
              rw [if_pos he] at hl ht
              refine am_top (y := 1) rfl ?_
              iterate 12 (first | refine am_g0 rfl rfl ?_ | refine am_go rfl ?_)
              refine am_ff (show ¬ w.1 12 3 ≤ w.1 64 3 by rw [hV.2.1, p2, ← hl]; exact nI_ge hm (by omega)) ?_
              iterate 9 (first | refine am_g0 rfl rfl ?_ | refine am_go rfl ?_)
              refine ⟨(some (.int (nI A)), am_pi (am_pi (am_pi w 64 12 (-1)) 64 9 (nI W0)) 64 9 (nI (W0 - 3 ^ P.2.2.2.1))), (show am_D shC (d - 1) mi_X0_wayOf [.ref 12, .int (w.1 64 3), .int (w.1 64 10)] _ _ by rw [p2, q4, ← hl, ← ht]; exact call _ hw1), ?_⟩
              refine am_to (lv' := [(0, .ref 64), (4, .int 1), (5, .int (w.1 64 3))]) (st' := [.int (nI A)]) (w' := am_pi (am_pi (am_pi w 64 12 (-1)) 64 9 (nI W0)) 64 9 (nI (W0 - 3 ^ P.2.2.2.1))) rfl rfl rfl ?_
              iterate 22 (first | refine am_g0 rfl rfl ?_ | refine am_go rfl ?_)
              rw [hg, if_pos he, if_pos he]
              refine am_kl (d_gotail_64 (by omega) (hV.fr (fun a ha => ?_)) (c := q.1) hpl hcn rfl hway ?_) rfl
              · exact ((((((am_fr.rf.pi).pi).pi).pi).pi).pi (b := 64)).1 a (by omega)
              · refine ⟨rfl, ((((((((am_fr.rf.pi).pi).pi).pi).pi).pi).pi).pi), ⟨p1, p2, p3, p4, p5⟩, plc_free hV hcn hway hk1, rfl, rfl, ?_, ?_, ?_⟩
                · show w.1 64 10 + 1 = _
                  rw [q4, nI_1]
                · show w.1 64 11 + 0 = _
                  rw [q5]; exact Int32.add_zero _
                · show w.1 64 3 = _
                  rw [p2, ← hl]; rfl
            | false =>
              have he : ¬ s % 2 = 0 := fun z => by have := hev.mpr z; cases this
              rw [if_neg he] at hl ht
              refine am_top (y := 0) rfl ?_
              iterate 11 (first | refine am_g0 rfl rfl ?_ | refine am_go rfl ?_)
              refine am_ff (show ¬ w.1 12 3 ≤ w.1 64 4 by rw [hV.2.1, p3, ← hl]; exact nI_ge hm (by omega)) ?_
              iterate 8 (first | refine am_g0 rfl rfl ?_ | refine am_go rfl ?_)
              refine ⟨(some (.int (nI A)), am_pi (am_pi (am_pi w 64 12 (-1)) 64 9 (nI W0)) 64 9 (nI (W0 - 3 ^ P.2.2.2.1))), (show am_D shC (d - 1) mi_X0_wayOf [.ref 12, .int (w.1 64 4), .int (w.1 64 11)] _ _ by rw [p3, q5, ← hl, ← ht]; exact call _ hw1), ?_⟩
              refine am_to (lv' := [(0, .ref 64), (4, .int 0), (5, .int (w.1 64 4))]) (st' := [.int (nI A)]) (w' := am_pi (am_pi (am_pi w 64 12 (-1)) 64 9 (nI W0)) 64 9 (nI (W0 - 3 ^ P.2.2.2.1))) rfl rfl rfl ?_
              iterate 20 (first | refine am_g0 rfl rfl ?_ | refine am_go rfl ?_)
              rw [hg, if_neg he, if_neg he]
              refine am_kl (d_gotail_64 (by omega) (hV.fr (fun a ha => ?_)) (c := q.1) hpl hcn rfl hway ?_) rfl
              · exact ((((((am_fr.rf.pi).pi).pi).pi).pi).pi (b := 64)).1 a (by omega)
              · refine ⟨rfl, ((((((((am_fr.rf.pi).pi).pi).pi).pi).pi).pi).pi), ⟨p1, p2, p3, p4, p5⟩, plc_free hV hcn hway hk1, rfl, rfl, ?_, ?_, ?_⟩
                · show w.1 64 10 + 0 = _
                  rw [q4]; exact Int32.add_zero _
                · show w.1 64 11 + 1 = _
                  rw [q5, nI_1]
                · show w.1 64 4 = _
                  rw [p3, ← hl]; rfl
          · have hg : goS V P s r q = ((V.2.2.1 q.1 P.2.2.2.2, stOf (V.2.1 (V.2.2.1 q.1 P.2.2.2.2)), W0 - 3 ^ P.2.2.2.1, q.2.2.2.1, q.2.2.2.2), none) := by unfold goS; rw [if_neg (by omega), ← hW0, if_neg hw, ← hl, if_neg hm]
            have fin : ∀ lv, am_kill mi_X10_go 186 lv = [(0, .ref 64), (3, .int (w.1 64 6))] → am_R shC mi_X10_go (am_D shC (d - 1)) (fun o => o.1 = none ∧ am_fr 64 w o.2 ∧ wkP (o.2.1 64) P ∧ wkQ (o.2.1 64) (goS V P s r q).1 (goS V P s r q).2) 186 lv [] (am_pi (am_pi (am_pi w 64 12 (-1)) 64 9 (nI W0)) 64 9 (nI (W0 - 3 ^ P.2.2.2.1))) := by
              intro lv hlv
              rw [hg]
              refine am_kl (d_gotail_64 (by omega) (hV.fr (fun a ha => ?_)) (c := q.1) hpl hcn p5 b5 ?_) hlv
              · exact (((am_fr.rf.pi).pi).pi (b := 64)).1 a (by omega)
              · exact ⟨rfl, (((((am_fr.rf.pi).pi).pi).pi).pi), ⟨p1, p2, p3, p4, p5⟩, plc_free hV hcn b5 hk1, rfl, rfl, q4, q5, rfl⟩
            cases ev with
            | true =>
              have he : s % 2 = 0 := hev.mp rfl
              rw [if_pos he] at hl
              refine am_top (y := 1) rfl ?_
              iterate 12 (first | refine am_g0 rfl rfl ?_ | refine am_go rfl ?_)
              refine am_tt (show w.1 12 3 ≤ w.1 64 3 by rw [hV.2.1, p2, ← hl]; exact nI_le (by omega) (by omega)) ?_
              exact fin _ rfl
            | false =>
              have he : ¬ s % 2 = 0 := fun z => by have := hev.mpr z; cases this
              rw [if_neg he] at hl
              refine am_top (y := 0) rfl ?_
              iterate 11 (first | refine am_g0 rfl rfl ?_ | refine am_go rfl ?_)
              refine am_tt (show w.1 12 3 ≤ w.1 64 4 by rw [hV.2.1, p3, ← hl]; exact nI_le (by omega) (by omega)) ?_
              exact fin _ rfl
        iterate 4 (first | refine am_g0 rfl rfl ?_ | refine am_go rfl ?_)
        refine am_top (y := nI (s % 2)) (pk_rem (d := 2) (by omega) (by omega) (by omega)) ?_
        iterate 1 (first | refine am_g0 rfl rfl ?_ | refine am_go rfl ?_)
        by_cases he : s % 2 = 0
        · refine am_tt (show nI (s % 2) = 0 by rw [he]; rfl) ?_
          iterate 2 (first | refine am_g0 rfl rfl ?_ | refine am_go rfl ?_)
          exact am_kl (foot true _ _ ⟨fun _ => he, fun _ => rfl⟩ rfl rfl) rfl
        · refine am_ff (show ¬ nI (s % 2) = 0 from nI_ne0 (by omega) (by omega)) ?_
          iterate 1 (first | refine am_g0 rfl rfl ?_ | refine am_go rfl ?_)
          exact am_kl (foot false _ _ ⟨fun z => (Bool.false_ne_true z).elim, fun z => absurd z he⟩ rfl rfl) rfl
    cases r with
    | true =>
      iterate 8 (first | refine am_g0 rfl rfl ?_ | refine am_go rfl ?_)
      exact am_kl (key 0 rfl) rfl
    | false =>
      iterate 13 (first | refine am_g0 rfl rfl ?_ | refine am_go rfl ?_)
      refine am_top (y := nI (q.2.2.1 + 2 ^ P.2.2.2.1)) (show w.1 64 9 + (1 : Int32) <<< (w.1 64 5 &&& 31) = _ by rw [q3, p4, shl_one b4, nI_add]) ?_
      exact am_kl (key _ rfl) rfl
  · refine am_ff (show ¬ w.1 64 8 = 0 by rw [q2]; exact nI_ne0 (by omega) (by omega)) ?_
    iterate 1 (first | refine am_g0 rfl rfl ?_ | refine am_go rfl ?_)
    have hg : goS V P s r q = (q, none) := by unfold goS; rw [if_pos h0]
    rw [hg]
    exact ⟨rfl, rfl, am_fr.rf.pi, ⟨p1, p2, p3, p4, p5⟩, q1, q2, q3, q4, q5, rfl⟩
theorem d_gotail_65 {d : Nat} {V : Wd} {w : am_M} {c a : Nat} {x : Int32} {Φ : am_O → Prop} (hd : 1 ≤ d) (hV : cV w V) (hc : w.1 65 7 = nI c) (hcn : c < V.1) (hx : x = nI a) (ha : a < 4) (hΦ : Φ (none, am_pi (am_pi w 65 7 (nI (V.2.2.1 c a))) 65 8 (nI (stOf (V.2.1 (V.2.2.1 c a)))))) : am_R shC mi_X10_go (am_D shC d) Φ 186 [(0, .ref 65), (3, .int x)] [] w := by
  have hT := hV.1
  subst hx
  iterate 7 (first | refine am_g0 rfl rfl ?_ | refine am_go rfl ?_)
  rw [hc]
  refine ⟨(some (.int (nI (V.2.2.1 c a))), w), d_nextOf hd hT hcn ha, ?_⟩
  iterate 7 (first | refine am_g0 rfl rfl ?_ | refine am_go rfl ?_)
  refine ⟨(some (.int (nI (stOf (V.2.1 (V.2.2.1 c a))))), _), d_stateOn_t hd (hT.fr (fun b hb => am_pi_row (by omega))) ((hT.2.2.2 c hcn a ha).2.1), ?_⟩
  iterate 2 (first | refine am_g0 rfl rfl ?_ | refine am_go rfl ?_)
  exact ⟨rfl, hΦ⟩
set_option maxHeartbeats 8000000 in
theorem d_go_65 {d : Nat} {V : Wd} {P : Pr} {q : Qs} {b0 : Option Nat} {s : Nat} {r : Bool} {w : am_M} (hd : 2 ≤ d) (hV : cV w V) (hP : wkP (w.1 65) P) (hPb : Pok P) (hQ : wkQ (w.1 65) q b0) (hq : qok V P q s) (hs : s < 30) : ∃ o : am_O, (o.1 = none ∧ am_fr 65 w o.2 ∧ wkP (o.2.1 65) P ∧ wkQ (o.2.1 65) (goS V P s r q).1 (goS V P s r q).2) ∧ am_D shC d mi_X10_go [.ref 65, .int (nI s), .int (if r then 1 else 0)] w o := by
  obtain ⟨p1, p2, p3, p4, p5⟩ := hP
  obtain ⟨q1, q2, q3, q4, q5, q6⟩ := hQ
  obtain ⟨b1, b2, b3, b4, b5⟩ := hPb
  obtain ⟨qa, qb, qc, qd, qe⟩ := hq
  have hsol := pow_bd P.2.2.2.1 b4
  refine am_dex (by omega) rfl rfl ?_
  iterate 6 (first | refine am_g0 rfl rfl ?_ | refine am_go rfl ?_)
  by_cases h0 : q.2.1 = 0
  · refine am_tt (show w.1 65 8 = 0 by rw [q2, h0]; rfl) ?_
    have hpl : w.1 65 7 = nI q.1 := by rw [q1]; unfold plc; rw [if_neg (by omega)]
    have hcn : q.1 < V.1 := (qb (by omega)).1
    have hk1 : V.2.1 q.1 ≠ 1 := fun z => by
      have := (qb (by omega)).2
      rw [z, h0] at this
      exact absurd this (by decide)
    have h3 : ([1, 3, 9, 27, 81, 243] : List Int32).getD (w.1 65 5).toNatClampNeg 0 = nI (3 ^ P.2.2.2.1) := by rw [p4, nI_clamp (by omega), List.getD_eq_getElem?_getD, hsol.2.2.2]; rfl
    have h3b : ¬ (w.1 65 5 < 0 ∨ 6 ≤ (w.1 65 5).toNatClampNeg) := by rw [p4]; exact nI_in b4 (by decide)
    -- the weight that is put on
    have key : ∀ W0 : Nat, W0 = (if r then 0 else q.2.2.1 + 2 ^ P.2.2.2.1) → am_R shC mi_X10_go (am_D shC (d - 1)) (fun o => o.1 = none ∧ am_fr 65 w o.2 ∧ wkP (o.2.1 65) P ∧ wkQ (o.2.1 65) (goS V P s r q).1 (goS V P s r q).2) 38 [(0, .ref 65), (1, .int (nI s)), (3, .int (w.1 65 6))] [.int (nI W0), .ref 65] (am_pi w 65 12 (-1)) := by
      intro W0 hW0
      have hW1 : W0 < 1000 := by rw [hW0]; split <;> omega
      iterate 7 (first | refine am_g0 rfl rfl ?_ | refine am_go rfl ?_)
      refine am_ff h3b ?_
      refine am_top h3 ?_
      iterate 1 (first | refine am_g0 rfl rfl ?_ | refine am_go rfl ?_)
      by_cases hw : W0 < 3 ^ P.2.2.2.1
      · refine am_tt (show nI W0 < nI (3 ^ P.2.2.2.1) from nI_lt hw (by omega)) ?_
        have hg : goS V P s r q = ((V.2.2.1 q.1 P.2.2.2.2, stOf (V.2.1 (V.2.2.1 q.1 P.2.2.2.2)), W0, q.2.2.2.1, q.2.2.2.2), none) := by unfold goS; rw [if_neg (by omega), ← hW0, if_pos hw]
        rw [hg]
        refine am_kl (d_gotail_65 (by omega) (hV.fr (fun a ha => ?_)) (c := q.1) hpl hcn p5 b5 ?_) rfl
        · exact ((am_fr.rf.pi).pi (b := 65)).1 a (by omega)
        · exact ⟨rfl, ((((am_fr.rf.pi).pi).pi).pi), ⟨p1, p2, p3, p4, p5⟩, plc_free hV hcn b5 hk1, rfl, rfl, q4, q5, rfl⟩
      · refine am_ff (show ¬ nI W0 < nI (3 ^ P.2.2.2.1) from nI_nlt (by omega) (by omega)) ?_
        iterate 7 (first | refine am_g0 rfl rfl ?_ | refine am_go rfl ?_)
        refine am_ff h3b ?_
        refine am_top h3 ?_
        iterate 1 (first | refine am_g0 rfl rfl ?_ | refine am_go rfl ?_)
        refine am_top (y := nI (W0 - 3 ^ P.2.2.2.1)) (pk_sub (by omega)) ?_
        -- which foot
        have foot : ∀ (ev : Bool) (l t : Nat), (ev = true ↔ s % 2 = 0) → l = (if s % 2 = 0 then P.2.1 else P.2.2.1) → t = (if s % 2 = 0 then q.2.2.2.1 else q.2.2.2.2) → am_R shC mi_X10_go (am_D shC (d - 1)) (fun o => o.1 = none ∧ am_fr 65 w o.2 ∧ wkP (o.2.1 65) P ∧ wkQ (o.2.1 65) (goS V P s r q).1 (goS V P s r q).2) 84 [(0, .ref 65), (3, .int (w.1 65 6))] [.int (if ev then 1 else 0)] (am_pi (am_pi (am_pi w 65 12 (-1)) 65 9 (nI W0)) 65 9 (nI (W0 - 3 ^ P.2.2.2.1))) := by
          intro ev l t hev hl ht
          have hl8 : l < 8 := by rw [hl]; split <;> omega
          have ht30 : t ≤ s := by rw [ht]; split <;> omega
          have hlm : V.2.2.2.1 ≤ 8 := hV.2.2.1
          by_cases hm : l < V.2.2.2.1
          · have hlet := (hV.2.2.2 l hm).2.2.2.2.2 (t % V.2.2.2.2.2.1 l) (Nat.mod_lt _ (by have := (hV.2.2.2 l hm).2.2.2.1; omega))
            obtain ⟨A, hA⟩ : ∃ A, A = wayS (V.2.2.2.2.1 l) (V.2.2.2.2.2.1 l) (V.2.2.2.2.2.2 l) t := ⟨_, rfl⟩
            have hway : A < 4 := by rw [hA]; exact wayS_lt hlet.2
            have hg : goS V P s r q = ((V.2.2.1 q.1 A, stOf (V.2.1 (V.2.2.1 q.1 A)), W0 - 3 ^ P.2.2.2.1, q.2.2.2.1 + (if s % 2 = 0 then 1 else 0), q.2.2.2.2 + (if s % 2 = 0 then 0 else 1)), some l) := by unfold goS; rw [if_neg (by omega), ← hW0, if_neg hw, ← hl, ← ht, if_pos hm, ← hA]
            have call : ∀ w1 : am_M, (∀ a, a < 16 → w1.1 a = w.1 a) → am_D shC (d - 1) mi_X0_wayOf [.ref 12, .int (nI l), .int (nI t)] w1 (some (.int (nI A)), w1) := fun w1 h1 => by rw [hA]; exact d_wayOf (by omega) (hV.2.fr h1) hm (by omega)
            have hw1 : ∀ a, a < 16 → (am_pi (am_pi (am_pi w 65 12 (-1)) 65 9 (nI W0)) 65 9 (nI (W0 - 3 ^ P.2.2.2.1))).1 a = w.1 a := fun a ha => (((am_fr.rf.pi).pi).pi (b := 65)).1 a (by omega)
            cases ev with
            | true =>
              have he : s % 2 = 0 := hev.mp rfl
              rw [if_pos he] at hl ht
              refine am_top (y := 1) rfl ?_
              iterate 12 (first | refine am_g0 rfl rfl ?_ | refine am_go rfl ?_)
              refine am_ff (show ¬ w.1 12 3 ≤ w.1 65 3 by rw [hV.2.1, p2, ← hl]; exact nI_ge hm (by omega)) ?_
              iterate 9 (first | refine am_g0 rfl rfl ?_ | refine am_go rfl ?_)
              refine ⟨(some (.int (nI A)), am_pi (am_pi (am_pi w 65 12 (-1)) 65 9 (nI W0)) 65 9 (nI (W0 - 3 ^ P.2.2.2.1))), (show am_D shC (d - 1) mi_X0_wayOf [.ref 12, .int (w.1 65 3), .int (w.1 65 10)] _ _ by rw [p2, q4, ← hl, ← ht]; exact call _ hw1), ?_⟩
              refine am_to (lv' := [(0, .ref 65), (4, .int 1), (5, .int (w.1 65 3))]) (st' := [.int (nI A)]) (w' := am_pi (am_pi (am_pi w 65 12 (-1)) 65 9 (nI W0)) 65 9 (nI (W0 - 3 ^ P.2.2.2.1))) rfl rfl rfl ?_
              iterate 22 (first | refine am_g0 rfl rfl ?_ | refine am_go rfl ?_)
              rw [hg, if_pos he, if_pos he]
              refine am_kl (d_gotail_65 (by omega) (hV.fr (fun a ha => ?_)) (c := q.1) hpl hcn rfl hway ?_) rfl
              · exact ((((((am_fr.rf.pi).pi).pi).pi).pi).pi (b := 65)).1 a (by omega)
              · refine ⟨rfl, ((((((((am_fr.rf.pi).pi).pi).pi).pi).pi).pi).pi), ⟨p1, p2, p3, p4, p5⟩, plc_free hV hcn hway hk1, rfl, rfl, ?_, ?_, ?_⟩
                · show w.1 65 10 + 1 = _
                  rw [q4, nI_1]
                · show w.1 65 11 + 0 = _
                  rw [q5]; exact Int32.add_zero _
                · show w.1 65 3 = _
                  rw [p2, ← hl]; rfl
            | false =>
              have he : ¬ s % 2 = 0 := fun z => by have := hev.mpr z; cases this
              rw [if_neg he] at hl ht
              refine am_top (y := 0) rfl ?_
              iterate 11 (first | refine am_g0 rfl rfl ?_ | refine am_go rfl ?_)
              refine am_ff (show ¬ w.1 12 3 ≤ w.1 65 4 by rw [hV.2.1, p3, ← hl]; exact nI_ge hm (by omega)) ?_
              iterate 8 (first | refine am_g0 rfl rfl ?_ | refine am_go rfl ?_)
              refine ⟨(some (.int (nI A)), am_pi (am_pi (am_pi w 65 12 (-1)) 65 9 (nI W0)) 65 9 (nI (W0 - 3 ^ P.2.2.2.1))), (show am_D shC (d - 1) mi_X0_wayOf [.ref 12, .int (w.1 65 4), .int (w.1 65 11)] _ _ by rw [p3, q5, ← hl, ← ht]; exact call _ hw1), ?_⟩
              refine am_to (lv' := [(0, .ref 65), (4, .int 0), (5, .int (w.1 65 4))]) (st' := [.int (nI A)]) (w' := am_pi (am_pi (am_pi w 65 12 (-1)) 65 9 (nI W0)) 65 9 (nI (W0 - 3 ^ P.2.2.2.1))) rfl rfl rfl ?_
              iterate 20 (first | refine am_g0 rfl rfl ?_ | refine am_go rfl ?_)
              rw [hg, if_neg he, if_neg he]
              refine am_kl (d_gotail_65 (by omega) (hV.fr (fun a ha => ?_)) (c := q.1) hpl hcn rfl hway ?_) rfl
              · exact ((((((am_fr.rf.pi).pi).pi).pi).pi).pi (b := 65)).1 a (by omega)
              · refine ⟨rfl, ((((((((am_fr.rf.pi).pi).pi).pi).pi).pi).pi).pi), ⟨p1, p2, p3, p4, p5⟩, plc_free hV hcn hway hk1, rfl, rfl, ?_, ?_, ?_⟩
                · show w.1 65 10 + 0 = _
                  rw [q4]; exact Int32.add_zero _
                · show w.1 65 11 + 1 = _
                  rw [q5, nI_1]
                · show w.1 65 4 = _
                  rw [p3, ← hl]; rfl
          · have hg : goS V P s r q = ((V.2.2.1 q.1 P.2.2.2.2, stOf (V.2.1 (V.2.2.1 q.1 P.2.2.2.2)), W0 - 3 ^ P.2.2.2.1, q.2.2.2.1, q.2.2.2.2), none) := by unfold goS; rw [if_neg (by omega), ← hW0, if_neg hw, ← hl, if_neg hm]
            have fin : ∀ lv, am_kill mi_X10_go 186 lv = [(0, .ref 65), (3, .int (w.1 65 6))] → am_R shC mi_X10_go (am_D shC (d - 1)) (fun o => o.1 = none ∧ am_fr 65 w o.2 ∧ wkP (o.2.1 65) P ∧ wkQ (o.2.1 65) (goS V P s r q).1 (goS V P s r q).2) 186 lv [] (am_pi (am_pi (am_pi w 65 12 (-1)) 65 9 (nI W0)) 65 9 (nI (W0 - 3 ^ P.2.2.2.1))) := by
              intro lv hlv
              rw [hg]
              refine am_kl (d_gotail_65 (by omega) (hV.fr (fun a ha => ?_)) (c := q.1) hpl hcn p5 b5 ?_) hlv
              · exact (((am_fr.rf.pi).pi).pi (b := 65)).1 a (by omega)
              · exact ⟨rfl, (((((am_fr.rf.pi).pi).pi).pi).pi), ⟨p1, p2, p3, p4, p5⟩, plc_free hV hcn b5 hk1, rfl, rfl, q4, q5, rfl⟩
            cases ev with
            | true =>
              have he : s % 2 = 0 := hev.mp rfl
              rw [if_pos he] at hl
              refine am_top (y := 1) rfl ?_
              iterate 12 (first | refine am_g0 rfl rfl ?_ | refine am_go rfl ?_)
              refine am_tt (show w.1 12 3 ≤ w.1 65 3 by rw [hV.2.1, p2, ← hl]; exact nI_le (by omega) (by omega)) ?_
              exact fin _ rfl
            | false =>
              have he : ¬ s % 2 = 0 := fun z => by have := hev.mpr z; cases this
              rw [if_neg he] at hl
              refine am_top (y := 0) rfl ?_
              iterate 11 (first | refine am_g0 rfl rfl ?_ | refine am_go rfl ?_)
              refine am_tt (show w.1 12 3 ≤ w.1 65 4 by rw [hV.2.1, p3, ← hl]; exact nI_le (by omega) (by omega)) ?_
              exact fin _ rfl
        iterate 4 (first | refine am_g0 rfl rfl ?_ | refine am_go rfl ?_)
        refine am_top (y := nI (s % 2)) (pk_rem (d := 2) (by omega) (by omega) (by omega)) ?_
        iterate 1 (first | refine am_g0 rfl rfl ?_ | refine am_go rfl ?_)
        by_cases he : s % 2 = 0
        · refine am_tt (show nI (s % 2) = 0 by rw [he]; rfl) ?_
          iterate 2 (first | refine am_g0 rfl rfl ?_ | refine am_go rfl ?_)
          exact am_kl (foot true _ _ ⟨fun _ => he, fun _ => rfl⟩ rfl rfl) rfl
        · refine am_ff (show ¬ nI (s % 2) = 0 from nI_ne0 (by omega) (by omega)) ?_
          iterate 1 (first | refine am_g0 rfl rfl ?_ | refine am_go rfl ?_)
          exact am_kl (foot false _ _ ⟨fun z => (Bool.false_ne_true z).elim, fun z => absurd z he⟩ rfl rfl) rfl
    cases r with
    | true =>
      iterate 8 (first | refine am_g0 rfl rfl ?_ | refine am_go rfl ?_)
      exact am_kl (key 0 rfl) rfl
    | false =>
      iterate 13 (first | refine am_g0 rfl rfl ?_ | refine am_go rfl ?_)
      refine am_top (y := nI (q.2.2.1 + 2 ^ P.2.2.2.1)) (show w.1 65 9 + (1 : Int32) <<< (w.1 65 5 &&& 31) = _ by rw [q3, p4, shl_one b4, nI_add]) ?_
      exact am_kl (key _ rfl) rfl
  · refine am_ff (show ¬ w.1 65 8 = 0 by rw [q2]; exact nI_ne0 (by omega) (by omega)) ?_
    iterate 1 (first | refine am_g0 rfl rfl ?_ | refine am_go rfl ?_)
    have hg : goS V P s r q = (q, none) := by unfold goS; rw [if_pos h0]
    rw [hg]
    exact ⟨rfl, rfl, am_fr.rf.pi, ⟨p1, p2, p3, p4, p5⟩, q1, q2, q3, q4, q5, rfl⟩
theorem d_go_any {d i : Nat} {V : Wd} {P : Pr} {q : Qs} {b0 : Option Nat} {s : Nat} {r : Bool} {w : am_M} (hi : i < 11) (hd : 2 ≤ d) (hV : cV w V) (hP : wkP (w.1 (55 + i)) P) (hPb : Pok P) (hQ : wkQ (w.1 (55 + i)) q b0) (hq : qok V P q s) (hs : s < 30) : ∃ o : am_O, (o.1 = none ∧ am_fr (55 + i) w o.2 ∧ wkP (o.2.1 (55 + i)) P ∧ wkQ (o.2.1 (55 + i)) (goS V P s r q).1 (goS V P s r q).2) ∧ am_D shC d mi_X10_go [.ref (55 + i), .int (nI s), .int (if r then 1 else 0)] w o := by
  match i, hi with
  | 0, _ => exact d_go_55 hd hV hP hPb hQ hq hs
  | 1, _ => exact d_go_56 hd hV hP hPb hQ hq hs
  | 2, _ => exact d_go_57 hd hV hP hPb hQ hq hs
  | 3, _ => exact d_go_58 hd hV hP hPb hQ hq hs
  | 4, _ => exact d_go_59 hd hV hP hPb hQ hq hs
  | 5, _ => exact d_go_60 hd hV hP hPb hQ hq hs
  | 6, _ => exact d_go_61 hd hV hP hPb hQ hq hs
  | 7, _ => exact d_go_62 hd hV hP hPb hQ hq hs
  | 8, _ => exact d_go_63 hd hV hP hPb hQ hq hs
  | 9, _ => exact d_go_64 hd hV hP hPb hQ hq hs
  | 10, _ => exact d_go_65 hd hV hP hPb hQ hq hs
