/-! match: the class' call -/
def matA (S : Sp) (p l : Nat) : Bool := decide (p < S.q) && (decide (l < S.m) && decide (fin S.V (prW (prS S.pf p) l l) (wet0 S) = 1))
def matchN (S : Sp) : Nat := dpN (matA S) S.m S.q (fun l => decide (l < S.m))
theorem matA_b {S : Sp} {p l : Nat} (h : matA S p l = true) : p < S.q ∧ l < S.m := by
  unfold matA at h
  simp only [Bool.and_eq_true, decide_eq_true_eq] at h
  exact ⟨h.1, h.2.1⟩
theorem d_mclear {d : Nat} {w : am_M} (hd : 1 ≤ d) : ∃ o : am_O, (o.1 = none ∧ (∀ a, a ≠ 67 → a ≠ 68 → o.2.1 a = w.1 a) ∧ o.2.2 = w.2 ∧ ∀ i, i < 8 → o.2.1 67 i = 0 ∧ o.2.1 68 i = -1) ∧ am_D shC d mi_X1_clear [.ref 66] w o := by
  refine am_dex (by omega) rfl rfl ?_
  iterate 2 refine am_g0 rfl rfl ?_
  have key : ∀ j i : Nat, i + j = 8 → ∀ m : am_M, (∀ a, a ≠ 67 → a ≠ 68 → m.1 a = w.1 a) → m.2 = w.2 → (∀ k, k < i → m.1 67 k = 0 ∧ m.1 68 k = -1) → am_R shC mi_X1_clear (am_D shC (d - 1)) (fun o => o.1 = none ∧ (∀ a, a ≠ 67 → a ≠ 68 → o.2.1 a = w.1 a) ∧ o.2.2 = w.2 ∧ ∀ i, i < 8 → o.2.1 67 i = 0 ∧ o.2.1 68 i = -1) 2 [(0, .ref 66), (1, .int (nI i))] [] m := by
    intro j
    induction j with
    | zero =>
      intro i hi m h1 h2 h3
      refine am_go rfl ?_
      iterate 2 refine am_g0 rfl rfl ?_
      refine am_tt (show (8 : Int32) ≤ (nI i) from nI_le (a := 8) (by omega) (by omega)) ?_
      refine am_go rfl ?_
      exact ⟨rfl, rfl, h1, h2, fun k hk => h3 k (by omega)⟩
    | succ j ih =>
      intro i hi m h1 h2 h3
      refine am_go rfl ?_
      iterate 2 refine am_g0 rfl rfl ?_
      refine am_ff (show ¬ (8 : Int32) ≤ (nI i) from nI_ge (b := 8) (by omega) (by omega)) ?_
      iterate 4 refine am_g0 rfl rfl ?_
      refine am_gsN (n := 8) (k := i) rfl rfl (by omega) (by decide) ?_
      refine am_to (lv' := [(0, .ref 66), (1, .int (nI i))]) (st' := []) (w' := am_pi m 67 i 0) rfl rfl rfl ?_
      iterate 4 refine am_g0 rfl rfl ?_
      refine am_gsN (n := 8) (k := i) rfl rfl (by omega) (by decide) ?_
      refine am_to (lv' := [(0, .ref 66), (1, .int (nI i))]) (st' := []) (w' := am_pi (am_pi m 67 i 0) 68 i (-1)) rfl rfl rfl ?_
      iterate 2 refine am_g0 rfl rfl ?_
      have this := ih (i + 1) (by omega) (am_pi (am_pi m 67 i 0) 68 i (-1)) (fun a ha hb => by rw [am_pi_row hb, am_pi_row ha]; exact h1 a ha hb) h2 (fun k hk => if z : k = i then by rw [z, am_pi_at, am_pi_row (by omega), am_pi_at]; exact ⟨rfl, rfl⟩ else by rw [am_pi_row (show 67 ≠ 68 by omega), am_pi_ne (Or.inr z), am_pi_ne (Or.inr z), am_pi_row (by omega)]; exact h3 k (by omega))
      rw [← nI_1] at this
      exact am_kl this rfl
  exact am_kl (key 8 0 (by omega) w (fun _ _ _ => rfl) rfl (fun k hk => absurd hk (Nat.not_lt_zero k))) rfl
theorem d_allow {d p l : Nat} {w : am_M} (hd : 1 ≤ d) (hp : p < 8) : am_D shC d mi_X1_allow [.ref 66, .int (nI p), .int (nI l)] w (none, am_pi w 67 p (w.1 67 p ||| ((1 : Int32) <<< (nI l &&& 31)))) := by
  refine am_def (by omega) rfl rfl ?_
  iterate 4 refine am_g0 rfl rfl ?_
  refine am_glN (n := 8) (k := p) rfl rfl (by omega) (by decide) ?_
  iterate 4 refine am_g0 rfl rfl ?_
  refine am_gsN (n := 8) (k := p) rfl rfl (by omega) (by decide) ?_
  refine am_to (lv' := [(0, .ref 66), (1, .int (nI p)), (2, .int (nI l))]) (st' := []) (w' := am_pi w 67 p ((w.1 67 p) ||| ((1 : Int32) <<< ((nI l) &&& 31)))) rfl rfl rfl ?_
  refine am_g0 rfl rfl ?_
  exact ⟨rfl, rfl⟩
set_option maxHeartbeats 1000000 in
theorem d_match {d : Nat} {w : am_M} {S : Sp} (hd : 14 ≤ d) (h : RC w S) : ∃ o : am_O, (o.1 = some (.int (nI (matchN S))) ∧ RC o.2 S) ∧ am_D shC d mi_X11_match [.ref 0] w o := by
  have hq := h.q8
  obtain ⟨M, hM⟩ : ∃ M, S.m = M := ⟨_, rfl⟩
  have hM8 : M ≤ 8 := by rw [← hM]; exact h.1.M.2
  obtain ⟨A, hA⟩ : ∃ A, A = matA S := ⟨_, rfl⟩
  have hAd : ∀ p l, A p l = (decide (p < S.q) && (decide (l < M) && decide (fin S.V (prW (prS S.pf p) l l) (wet0 S) = 1))) := fun p l => by rw [hA, ← hM]; rfl
  have hmx : isMx A 8 (matchN S) := by rw [hA]; exact dp_mx h.1.M.2 hq (fun p l z => matA_b z)
  generalize matchN S = N at hmx ⊢
  have scm : ∀ a, 66 ≤ a → a ≤ 68 → scr a := fun a h1 h2 => Or.inr (Or.inl ⟨by omega, h2⟩)
  refine am_dex (by omega) rfl rfl ?_
  iterate 5 refine am_g0 rfl rfl ?_
  refine ⟨(some (.int (wetF (w.1 19) (-1) (-1) S.rn)), w), d_wetSteps (by omega) h.1.1.2.1.1 h.1.2.2.2.2.2.1.1, ?_⟩
  refine am_to (lv' := [(0, .ref 0)]) (st' := [.int (wetF (w.1 19) (-1) (-1) S.rn)]) (w' := w) rfl rfl rfl ?_
  have hwet := h.wet
  generalize wetF (w.1 19) (-1) (-1) S.rn = z at hwet ⊢
  iterate 4 refine am_g0 rfl rfl ?_
  obtain ⟨⟨r1, w1⟩, ⟨e1, f1, f2, g1⟩, hD1⟩ := d_mclear (d := d - 1) (by omega)
  dsimp only at e1 f1 f2 g1
  subst e1
  refine ⟨(none, w1), hD1, ?_⟩
  refine am_to (lv' := [(0, .ref 0), (1, .int z)]) (st' := []) (w' := w1) rfl rfl rfl ?_
  have sc1 : am_sc w w1 := ⟨fun a ha => f1 a (fun z => ha (scm a (by omega) (by omega))) (fun z => ha (scm a (by omega) (by omega))), f2⟩
  iterate 2 refine am_g0 rfl rfl ?_
  have key : ∀ j i : Nat, i + j = S.q → ∀ m : am_M, am_sc w m → (∀ l, l < 8 → m.1 68 l = -1) → (∀ p, p < 8 → ∀ l, l < 8 → wetB (m.1 67 p) l = (decide (p < i) && A p l)) → am_R shC mi_X11_match (am_D shC (d - 1)) (fun o => o.1 = some (.int (nI N)) ∧ RC o.2 S) 19 [(0, .ref 0), (1, .int z), (2, .int (nI i))] [] m := by
    intro j
    induction j with
    | zero =>
      intro i hi m hm h68 h67
      have r0 := h.sc hm
      refine am_go rfl ?_
      iterate 4 refine am_g0 rfl rfl ?_
      refine am_tt (show (m.1 16 1 : Int32) ≤ (nI i) from by rw [r0.1.P.1]; exact nI_le (by omega) (by omega)) ?_
      refine am_go rfl ?_
      iterate 2 refine am_g0 rfl rfl ?_
      obtain ⟨⟨r2, w2⟩, ⟨n, hn, e2, f2, g2⟩, hD2⟩ := d_greatest (A := A) (d := d - 1) (w := m) (by omega) (fun p hp l hl => by
        rw [h67 p hp l hl]
        by_cases e : p < i
        · rw [decide_eq_true e]; rfl
        · rw [decide_eq_false e, hAd, decide_eq_false (show ¬ p < S.q by omega)]; rfl) h68
      dsimp only at e2 f2 g2
      subst e2
      refine ⟨(some (.int (nI n)), w2), hD2, ?_⟩
      refine am_to (lv' := [(0, .ref 0)]) (st' := [.int (nI n)]) (w' := w2) rfl rfl rfl ?_
      refine am_g0 rfl rfl ?_
      refine ⟨rfl, by rw [isMx_u g2 hmx], r0.sc ⟨fun a ha => f2.1 a (fun z => ha (scm a (by omega) (by omega))) (fun z => ha (scm a (by omega) (by omega))), f2.2⟩⟩
    | succ j ih =>
      intro i hi m hm h68 h67
      have r0 := h.sc hm
      have hp : i < S.q := by omega
      have hok := h.1.P.ok hp
      refine am_go rfl ?_
      iterate 4 refine am_g0 rfl rfl ?_
      refine am_ff (show ¬ (m.1 16 1 : Int32) ≤ (nI i) from by rw [r0.1.P.1]; exact nI_ge (by omega) (by omega)) ?_
      iterate 2 refine am_g0 rfl rfl ?_
      have key2 : ∀ j l : Nat, l + j = M → ∀ m : am_M, am_sc w m → (∀ l, l < 8 → m.1 68 l = -1) → (∀ p, p < 8 → ∀ l', l' < 8 → wetB (m.1 67 p) l' = (decide (p < i ∨ p = i ∧ l' < l) && A p l')) → am_R shC mi_X11_match (am_D shC (d - 1)) (fun o => o.1 = some (.int (nI N)) ∧ RC o.2 S) 32 [(0, .ref 0), (1, .int z), (2, .int (nI i)), (3, .int (nI l))] [] m := by
        intro j
        induction j with
        | zero =>
          intro l hl m hm h68 h67
          have r0 := h.sc hm
          refine am_go rfl ?_
          iterate 4 refine am_g0 rfl rfl ?_
          refine am_tt (show (m.1 12 3 : Int32) ≤ (nI l) from by rw [r0.1.M.1, hM]; exact nI_le (by omega) (by omega)) ?_
          refine am_go rfl ?_
          refine am_g0 rfl rfl ?_
          have k67 : ∀ p, p < 8 → ∀ l', l' < 8 → wetB (m.1 67 p) l' = (decide (p < i + 1) && A p l') := by
            intro p hp l' hl'
            rw [h67 p hp l' hl', hAd]
            by_cases e1 : l' < M
            · rw [decide_eq_decide.mpr (show (p < i ∨ p = i ∧ l' < l) ↔ p < i + 1 by omega)]
            · rw [decide_eq_false e1]; simp
          have this := ih (i + 1) (by omega) m hm h68 k67
          rw [← nI_1] at this
          exact am_kl this rfl
        | succ j ih2 =>
          intro l hl m hm h68 h67
          have r0 := h.sc hm
          refine am_go rfl ?_
          iterate 4 refine am_g0 rfl rfl ?_
          refine am_ff (show ¬ (m.1 12 3 : Int32) ≤ (nI l) from by rw [r0.1.M.1, hM]; exact nI_ge (by omega) (by omega)) ?_
          iterate 6 refine am_g0 rfl rfl ?_
          obtain ⟨⟨r3, w3⟩, ⟨e3, f3, g3⟩, hD3⟩ := d_wearR (d := d - 1) (by omega) r0 hp
          dsimp only at e3 f3 g3
          subst e3
          refine ⟨(none, w3), hD3, ?_⟩
          refine am_to (lv' := [(0, .ref 0), (1, .int z), (2, .int (nI i)), (3, .int (nI l))]) (st' := []) (w' := w3) rfl rfl rfl ?_
          iterate 12 refine am_g0 rfl rfl ?_
          refine am_to (lv' := [(0, .ref 0), (1, .int z), (2, .int (nI i)), (3, .int (nI l))]) (st' := [.int 30, .int z, .ref 52]) (w' := am_pi (am_pi w3 52 3 (nI l)) 52 4 (nI l)) rfl rfl rfl ?_
          generalize hv : am_pi (am_pi w3 52 3 (nI l)) 52 4 (nI l) = v
          have scv : am_sc w v := by rw [← hv]; exact ((hm.tr (am_sc.of f3 scr52)).pi scr52).pi scr52
          have rv := h.sc scv
          have hPv : wkP (v.1 52) (prW (prS S.pf i) l l) := by rw [← hv]; exact ⟨g3.1, rfl, rfl, g3.2.2.2.1, g3.2.2.2.2⟩
          have hrow : ∀ a, a ≠ 52 → v.1 a = m.1 a := fun a ha => by rw [← hv, am_pi_row ha, am_pi_row ha]; exact f3.1 a ha
          have hPok : Pok (prW (prS S.pf i) l l) := ⟨hok.1, by show l < 8; omega, by show l < 8; omega, hok.2.2.2.1, hok.2.2.2.2⟩
          refine am_g0 rfl rfl ?_
          obtain ⟨⟨r4, w4⟩, ⟨e4, f4, g4, g5⟩, hD4⟩ := d_walk30 (d := d - 1) (by omega) rv.1.V hPv hPok hwet
          dsimp only at e4 f4 g4 g5
          subst e4
          refine ⟨(some (.int (nI (stopAt S.V (prW (prS S.pf i) l l) (wet0 S) 30) - 1)), w4), hD4, ?_⟩
          refine am_to (lv' := [(0, .ref 0), (1, .int z), (2, .int (nI i)), (3, .int (nI l))]) (st' := [.int (nI (stopAt S.V (prW (prS S.pf i) l l) (wet0 S) 30) - 1)]) (w' := w4) rfl rfl rfl ?_
          have sc4 : am_sc w w4 := scv.tr (am_sc.of f4 scr52)
          have r4 : ∀ a, a ≠ 52 → w4.1 a = m.1 a := fun a ha => (f4.1 a ha).trans (hrow a ha)
          have hlt : fin S.V (prW (prS S.pf i) l l) (wet0 S) < 4 := fin_lt h.1.V.good hPok
          iterate 6 refine am_g0 rfl rfl ?_
          by_cases hf : fin S.V (prW (prS S.pf i) l l) (wet0 S) = 1
          · have hAt : A i l = true := by rw [hAd, decide_eq_true hp, decide_eq_true (show l < M by omega), decide_eq_true hf]; rfl
            refine am_tt (show (w4.1 52 8 : Int32) = 1 from by rw [g5, hf]; rfl) ?_
            iterate 5 refine am_g0 rfl rfl ?_
            refine ⟨(none, am_pi w4 67 i (w4.1 67 i ||| ((1 : Int32) <<< (nI l &&& 31)))), d_allow (d := d - 1) (p := i) (l := l) (w := w4) (by omega) (by omega), ?_⟩
            refine am_to (lv' := [(0, .ref 0), (1, .int z), (2, .int (nI i)), (3, .int (nI l))]) (st' := []) (w' := am_pi w4 67 i (w4.1 67 i ||| ((1 : Int32) <<< (nI l &&& 31)))) rfl rfl rfl ?_
            refine am_go rfl ?_
            refine am_g0 rfl rfl ?_
            have k67 : ∀ p, p < 8 → ∀ l', l' < 8 → wetB ((am_pi w4 67 i (w4.1 67 i ||| ((1 : Int32) <<< (nI l &&& 31)))).1 67 p) l' = (decide (p < i ∨ p = i ∧ l' < l + 1) && A p l') := by
              intro p hp l' hl'
              by_cases e : p = i
              · rw [e, am_pi_at, wetB_or (by omega) (by omega), r4 67 (by omega), h67 i (by omega) l' hl']
                by_cases e2 : l = l'
                · rw [← e2, decide_eq_true rfl, hAt, decide_eq_true (show i < i ∨ i = i ∧ l < l + 1 by omega)]; simp
                · rw [decide_eq_false e2, Bool.or_false, decide_eq_decide.mpr (show (i < i ∨ i = i ∧ l' < l) ↔ (i < i ∨ i = i ∧ l' < l + 1) by omega)]
              · rw [am_pi_ne (Or.inr e), r4 67 (by omega), h67 p hp l' hl', decide_eq_decide.mpr (show (p < i ∨ p = i ∧ l' < l) ↔ (p < i ∨ p = i ∧ l' < l + 1) by omega)]
            have this := ih2 (l + 1) (by omega) (am_pi w4 67 i (w4.1 67 i ||| ((1 : Int32) <<< (nI l &&& 31)))) (sc4.pi (scm 67 (by omega) (by omega))) (fun l hl => by rw [am_pi_row (by omega), r4 68 (by omega)]; exact h68 l hl) k67
            rw [← nI_1] at this
            exact am_kl this rfl
          · have hAf : A i l = false := by rw [hAd, decide_eq_false hf]; simp
            refine am_ff (show ¬ (w4.1 52 8 : Int32) = 1 from by rw [g5]; exact nne (b := 1) hf (by omega) (by omega)) ?_
            refine am_go rfl ?_
            refine am_g0 rfl rfl ?_
            have k67 : ∀ p, p < 8 → ∀ l', l' < 8 → wetB (w4.1 67 p) l' = (decide (p < i ∨ p = i ∧ l' < l + 1) && A p l') := by
              intro p hp l' hl'
              rw [r4 67 (by omega), h67 p hp l' hl']
              by_cases e : p = i ∧ l' = l
              · rw [e.1, e.2, hAf]; simp
              · rw [decide_eq_decide.mpr (show (p < i ∨ p = i ∧ l' < l) ↔ (p < i ∨ p = i ∧ l' < l + 1) by omega)]
            have this := ih2 (l + 1) (by omega) w4 sc4 (fun l hl => by rw [r4 68 (by omega)]; exact h68 l hl) k67
            rw [← nI_1] at this
            exact am_kl this rfl
      exact am_kl (key2 M 0 (by omega) m hm h68 (fun p hp l hl => by rw [h67 p hp l hl, decide_eq_decide.mpr (show p < i ↔ (p < i ∨ p = i ∧ l < 0) by omega)])) rfl
  exact am_kl (key S.q 0 (by omega) w1 sc1 (fun l hl => (g1 l hl).2) (fun p hp l hl => by rw [(g1 p hp).1, wetB_0 (by omega)]; rfl)) rfl
