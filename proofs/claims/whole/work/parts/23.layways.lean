/-! the town's ways -/
def cKinds (w : am_M) (n : Nat) (K : Nat → Nat) : Prop := w.1 9 2 = nI n ∧ n ≤ 36 ∧ ∀ c, c < n → w.1 10 c = nI (K c) ∧ K c < 4
theorem cKinds.fr {w w' : am_M} {n : Nat} {K : Nat → Nat} (h : cKinds w n K) (e1 : w'.1 9 = w.1 9) (e2 : w'.1 10 = w.1 10) : cKinds w' n K := ⟨by rw [e1]; exact h.1, h.2.1, fun c hc => by rw [e2]; exact h.2.2 c hc⟩
theorem d_freeN {d n c t : Nat} {K : Nat → Nat} {w : am_M} (hd : 2 ≤ d) (hK : cKinds w n K) (ht : t < n) : am_D shC d mi_X8_freeOr [.ref 9, .int (nI c), .int (nI t)] w (some (.int (nI (if K t = 1 then c else t))), w) := by
  obtain ⟨h1, h2, h3⟩ := hK
  refine am_def (by omega) rfl rfl ?_
  iterate 4 refine am_g0 rfl rfl ?_
  rw [h1]
  refine ⟨(some (.int 1), w), d_isWithin_t shC (by omega) ht (by omega) w, ?_⟩
  refine am_to (lv' := [(0, .ref 9), (1, .int (nI c)), (2, .int (nI t))]) (st' := [.int 1]) (w' := w) rfl rfl rfl ?_
  iterate 4 refine am_g0 rfl rfl ?_
  refine am_glN (n := 36) rfl rfl (by omega) (by decide) ?_
  rw [(h3 t ht).1]
  iterate 2 refine am_g0 rfl rfl ?_
  by_cases h : K t = 1
  · refine am_tt (show nI (K t) = 1 by rw [h]; rfl) ?_
    refine am_go rfl ?_
    refine am_go rfl ?_
    rw [if_pos h]
    exact ⟨rfl, rfl⟩
  · refine am_ff (show ¬ nI (K t) = 1 from fun z => h ((nI_eq (b := 1) (by have := (h3 t ht).2; omega) (by omega)).mp z)) ?_
    iterate 2 refine am_g0 rfl rfl ?_
    refine am_go rfl ?_
    rw [if_neg h]
    exact ⟨rfl, rfl⟩
theorem d_freeO {d n c : Nat} {K : Nat → Nat} {x : Int32} {w : am_M} (hd : 2 ≤ d) (hK : cKinds w n K) (hx : x < 0 ∨ nI n ≤ x) : am_D shC d mi_X8_freeOr [.ref 9, .int (nI c), .int x] w (some (.int (nI c)), w) := by
  obtain ⟨h1, h2, h3⟩ := hK
  refine am_def (by omega) rfl rfl ?_
  iterate 4 refine am_g0 rfl rfl ?_
  rw [h1]
  refine ⟨(some (.int 0), w), d_isWithin_f shC (by omega) hx w, ?_⟩
  refine am_to (lv' := [(0, .ref 9), (1, .int (nI c)), (2, .int x)]) (st' := [.int 0]) (w' := w) rfl rfl rfl ?_
  refine am_g0 rfl rfl ?_
  refine am_go rfl ?_
  refine am_go rfl ?_
  exact ⟨rfl, rfl⟩
/-- where way a leads from c -/
def toS (n W c a : Nat) : Nat := if a = 0 then (if W ≤ c then c - W else c) else if a = 1 then (if c % W + 1 < W then c + 1 else c) else if a = 2 then (if c + W < n then c + W else c) else (if 0 < c % W then c - 1 else c)
def nxS (n W : Nat) (K : Nat → Nat) (c a : Nat) : Nat := if K (toS n W c a) = 1 then c else toS n W c a
theorem nxS_self {n W : Nat} {K : Nat → Nat} {c a : Nat} (h : toS n W c a = c) : nxS n W K c a = c := by unfold nxS; rw [h]; split <;> rfl
theorem toS_0 {n W c : Nat} (h : W ≤ c) : toS n W c 0 = c - W := by simp [toS, h]
theorem toS_1 {n W c : Nat} (h : c % W + 1 < W) : toS n W c 1 = c + 1 := by simp [toS, h]
theorem toS_2 {n W c : Nat} (h : c + W < n) : toS n W c 2 = c + W := by simp [toS, h]
theorem toS_3 {n W c : Nat} (h : 0 < c % W) : toS n W c 3 = c - 1 := by simp [toS, h]
theorem modS {c W : Nat} (hW : 1 ≤ W) : (c + 1) % W = if c % W + 1 < W then c % W + 1 else 0 := by
  have h1 := Nat.div_add_mod c W
  have h2 : c % W < W := Nat.mod_lt _ (by omega)
  split
  · rename_i h
    rw [show c + 1 = W * (c / W) + (c % W + 1) by omega, Nat.mul_add_mod, Nat.mod_eq_of_lt h]
  · rename_i h
    have h3 : c % W + 1 = W := by omega
    rw [show c + 1 = W * (c / W) + W by omega, Nat.mul_add_mod, Nat.mod_self]
set_option maxHeartbeats 4000000 in
theorem d_layWays {d n W r : Nat} {K : Nat → Nat} {w : am_M} (hd : 3 ≤ d) (hK : cKinds w n K) (hW : w.1 9 3 = nI W) (hW1 : n ≠ 0 → 1 ≤ W) (hW6 : W ≤ 6) (hr : n = r * W) : ∃ o : am_O, (o.1 = none ∧ am_fr 11 w o.2 ∧ ∀ c, c < n → ∀ a, a < 4 → o.2.1 11 (c * 4 + a) = nI (nxS n W K c a)) ∧ am_D shC d mi_X8_layWays [.ref 9] w o := by
  have hn36 := hK.2.1
  refine am_dex (by omega) rfl rfl ?_
  iterate 4 refine am_g0 rfl rfl ?_
  have key : ∀ j c : Nat, c + j = n → ∀ m : am_M, am_fr 11 w m → (∀ c', c' < c → ∀ a, a < 4 → m.1 11 (c' * 4 + a) = nI (nxS n W K c' a)) → am_R shC mi_X8_layWays (am_D shC (d - 1)) (fun o => o.1 = none ∧ am_fr 11 w o.2 ∧ ∀ c, c < n → ∀ a, a < 4 → o.2.1 11 (c * 4 + a) = nI (nxS n W K c a)) 4 [(0, .ref 9), (1, .int (nI (c % W))), (2, .int (nI c))] [] m := by
    intro j
    induction j with
    | zero =>
      intro c hc m hf hm
      have hm9 : m.1 9 2 = nI n := by rw [hf.1 9 (by omega)]; exact hK.1
      refine am_go rfl ?_
      iterate 3 refine am_g0 rfl rfl ?_
      refine am_tt (show m.1 9 2 ≤ nI c by rw [hm9]; exact nI_le (by omega) (by omega)) ?_
      refine am_go rfl ?_
      exact ⟨rfl, rfl, hf, fun c' hc' => hm c' (by omega)⟩
    | succ j ih =>
      intro c hc m hf hm
      have hcn : c < n := by omega
      have hWp : 1 ≤ W := hW1 (by omega)
      have hmod : c % W < W := Nat.mod_lt _ (by omega)
      have hm9 : m.1 9 2 = nI n := by rw [hf.1 9 (by omega)]; exact hK.1
      have hmW : m.1 9 3 = nI W := by rw [hf.1 9 (by omega)]; exact hW
      have hKm : cKinds m n K := hK.fr (hf.1 9 (by omega)) (hf.1 10 (by omega))
      have hdiv : c % W + 1 < W → c + 1 < n := by
        intro h
        rcases Nat.lt_or_ge (c + 1) n with z | z
        · exact z
        · have e : c + 1 = r * W := by omega
          have e2 : (c + 1) % W = 0 := by rw [e]; exact Nat.mul_mod_left _ _
          rw [modS hWp, if_pos h] at e2
          omega
      refine am_go rfl ?_
      iterate 3 refine am_g0 rfl rfl ?_
      refine am_ff (show ¬ m.1 9 2 ≤ nI c by rw [hm9]; exact nI_ge hcn (by omega)) ?_
      refine am_to (lv' := [(0, .ref 9), (1, .int (nI (c % W))), (2, .int (nI c))]) (st' := []) (w' := m) rfl rfl rfl ?_
      iterate 3 refine am_g0 rfl rfl ?_
      refine am_top (y := nI (c * 4)) (pk_mul c 4) ?_
      iterate 10 refine am_g0 rfl rfl ?_
      -- the way north
      have c0 : am_D shC (d - 1) mi_X8_freeOr [.ref 9, .int (nI c), .int (nI c - m.1 9 3)] m (some (.int (nI (nxS n W K c 0))), m) := by
        rw [hmW]
        by_cases h : W ≤ c
        · rw [pk_sub h]
          have := d_freeN (d := d - 1) (c := c) (by omega) hKm (show c - W < n by omega)
          have e : nxS n W K c 0 = if K (c - W) = 1 then c else c - W := by unfold nxS; rw [toS_0 h]
          rw [e]
          exact this
        · have := d_freeO (d := d - 1) (c := c) (by omega) hKm (Or.inl (pk_sneg (a := c) (b := W) (by omega) (by omega)))
          have e : nxS n W K c 0 = c := nxS_self (by unfold toS; rw [if_pos rfl, if_neg h])
          rw [e]
          exact this
      refine am_g0 rfl rfl ?_
      refine ⟨(some (.int (nI (nxS n W K c 0))), m), c0, ?_⟩
      refine am_to (lv' := [(0, .ref 9), (1, .int (nI (c % W))), (2, .int (nI c)), (3, .int (nI (c * 4)))]) (st' := [.int (nI (nxS n W K c 0)), .int (nI (c * 4)), .ref 11]) (w' := m) rfl rfl rfl ?_
      refine am_gsN (n := 144) rfl rfl (show c * 4 < 144 by omega) (by decide) ?_
      refine am_to (lv' := [(0, .ref 9), (1, .int (nI (c % W))), (2, .int (nI c)), (3, .int (nI (c * 4)))]) (st' := []) (w' := am_pi m 11 (c * 4) (nI (nxS n W K c 0))) rfl rfl rfl ?_
      generalize hm0 : am_pi m 11 (c * 4) (nI (nxS n W K c 0)) = m0
      have f0 : am_fr 11 w m0 := by rw [← hm0]; exact hf.pi
      -- the way east
      have st1 : am_R shC mi_X8_layWays (am_D shC (d - 1)) (fun o => o.1 = none ∧ am_fr 11 w o.2 ∧ ∀ c, c < n → ∀ a, a < 4 → o.2.1 11 (c * 4 + a) = nI (nxS n W K c a)) 62 [(0, .ref 9), (1, .int (nI (c % W))), (2, .int (nI c)), (3, .int (nI (c * 4)))] [.int (nI (nxS n W K c 1)), .int (nI (c * 4 + 1)), .ref 11] m0 := by
        refine am_gsN (n := 144) rfl rfl (show c * 4 + 1 < 144 by omega) (by decide) ?_
        refine am_to (lv' := [(0, .ref 9), (1, .int (nI (c % W))), (2, .int (nI c)), (3, .int (nI (c * 4)))]) (st' := []) (w' := am_pi m0 11 (c * 4 + 1) (nI (nxS n W K c 1))) rfl rfl rfl ?_
        generalize hm1 : am_pi m0 11 (c * 4 + 1) (nI (nxS n W K c 1)) = m1
        have f1 : am_fr 11 w m1 := by rw [← hm1]; exact f0.pi
        have hK1 : cKinds m1 n K := hK.fr (f1.1 9 (by omega)) (f1.1 10 (by omega))
        have h1W : m1.1 9 3 = nI W := by rw [f1.1 9 (by omega)]; exact hW
        -- the way south
        have c2 : am_D shC (d - 1) mi_X8_freeOr [.ref 9, .int (nI c), .int (nI c + m1.1 9 3)] m1 (some (.int (nI (nxS n W K c 2))), m1) := by
          rw [h1W, nI_add]
          by_cases h : c + W < n
          · have := d_freeN (d := d - 1) (c := c) (by omega) hK1 h
            have e : nxS n W K c 2 = if K (c + W) = 1 then c else c + W := by unfold nxS; rw [toS_2 h]
            rw [e]
            exact this
          · have := d_freeO (d := d - 1) (c := c) (x := nI (c + W)) (by omega) hK1 (Or.inr (nI_le (by omega) (by omega)))
            have e : nxS n W K c 2 = c := nxS_self (by unfold toS; rw [if_neg (by omega), if_neg (by omega), if_pos rfl, if_neg h])
            rw [e]
            exact this
        iterate 4 refine am_g0 rfl rfl ?_
        refine am_g0 rfl rfl ?_
        refine am_top (y := nI (c * 4 + 2)) (nI_add (c * 4) 2) ?_
        iterate 6 refine am_g0 rfl rfl ?_
        refine am_g0 rfl rfl ?_
        refine ⟨(some (.int (nI (nxS n W K c 2))), m1), c2, ?_⟩
        refine am_to (lv' := [(0, .ref 9), (1, .int (nI (c % W))), (2, .int (nI c)), (3, .int (nI (c * 4)))]) (st' := [.int (nI (nxS n W K c 2)), .int (nI (c * 4 + 2)), .ref 11]) (w' := m1) rfl rfl rfl ?_
        refine am_gsN (n := 144) rfl rfl (show c * 4 + 2 < 144 by omega) (by decide) ?_
        refine am_to (lv' := [(0, .ref 9), (1, .int (nI (c % W))), (2, .int (nI c)), (3, .int (nI (c * 4)))]) (st' := []) (w' := am_pi m1 11 (c * 4 + 2) (nI (nxS n W K c 2))) rfl rfl rfl ?_
        generalize hm2 : am_pi m1 11 (c * 4 + 2) (nI (nxS n W K c 2)) = m2
        have f2 : am_fr 11 w m2 := by rw [← hm2]; exact f1.pi
        have hK2 : cKinds m2 n K := hK.fr (f2.1 9 (by omega)) (f2.1 10 (by omega))
        have h2W : m2.1 9 3 = nI W := by rw [f2.1 9 (by omega)]; exact hW
        -- the way west, and the next cell
        have st3 : am_R shC mi_X8_layWays (am_D shC (d - 1)) (fun o => o.1 = none ∧ am_fr 11 w o.2 ∧ ∀ c, c < n → ∀ a, a < 4 → o.2.1 11 (c * 4 + a) = nI (nxS n W K c a)) 105 [(0, .ref 9), (1, .int (nI (c % W))), (2, .int (nI c))] [.int (nI (nxS n W K c 3)), .int (nI (c * 4 + 3)), .ref 11] m2 := by
          refine am_gsN (n := 144) rfl rfl (show c * 4 + 3 < 144 by omega) (by decide) ?_
          refine am_to (lv' := [(0, .ref 9), (1, .int (nI (c % W))), (2, .int (nI c))]) (st' := []) (w' := am_pi m2 11 (c * 4 + 3) (nI (nxS n W K c 3))) rfl rfl rfl ?_
          generalize hm3 : am_pi m2 11 (c * 4 + 3) (nI (nxS n W K c 3)) = m3
          have f3 : am_fr 11 w m3 := by rw [← hm3]; exact f2.pi
          have h3W : m3.1 9 3 = nI W := by rw [f3.1 9 (by omega)]; exact hW
          have hall : ∀ c', c' < c + 1 → ∀ a, a < 4 → m3.1 11 (c' * 4 + a) = nI (nxS n W K c' a) := by
            intro c' hc' a ha
            rw [← hm3, ← hm2, ← hm1, ← hm0]
            by_cases hcc : c' = c
            · subst hcc
              rcases (show a = 0 ∨ a = 1 ∨ a = 2 ∨ a = 3 by omega) with e | e | e | e <;> subst e
              · rw [am_pi_ne (Or.inr (by omega)), am_pi_ne (Or.inr (by omega)), am_pi_ne (Or.inr (by omega)), Nat.add_zero, am_pi_at]
              · rw [am_pi_ne (Or.inr (by omega)), am_pi_ne (Or.inr (by omega)), am_pi_at]
              · rw [am_pi_ne (Or.inr (by omega)), am_pi_at]
              · rw [am_pi_at]
            · rw [am_pi_ne (Or.inr (by omega)), am_pi_ne (Or.inr (by omega)), am_pi_ne (Or.inr (by omega)), am_pi_ne (Or.inr (by omega))]
              exact hm c' (by omega) a ha
          have nxt := ih (c + 1) (by omega) m3 f3 hall
          rw [modS hWp, ← nI_1] at nxt
          iterate 3 refine am_g0 rfl rfl ?_
          refine am_top (y := nI (c % W + 1)) (nI_1 _) ?_
          iterate 3 refine am_g0 rfl rfl ?_
          by_cases h : c % W + 1 < W
          · rw [if_pos h, ← nI_1] at nxt
            refine am_ff (show ¬ m3.1 9 3 ≤ nI (c % W + 1) by rw [h3W]; exact nI_ge h (by omega)) ?_
            iterate 4 refine am_g0 rfl rfl ?_
            refine am_go rfl ?_
            iterate 2 refine am_g0 rfl rfl ?_
            exact nxt
          · rw [if_neg h] at nxt
            refine am_tt (show m3.1 9 3 ≤ nI (c % W + 1) by rw [h3W]; exact nI_le (by omega) (by omega)) ?_
            refine am_go rfl ?_
            refine am_go rfl ?_
            iterate 2 refine am_g0 rfl rfl ?_
            exact nxt
        iterate 5 refine am_g0 rfl rfl ?_
        refine am_top (y := nI (c * 4 + 3)) (nI_add (c * 4) 3) ?_
        iterate 2 refine am_g0 rfl rfl ?_
        by_cases h : 0 < c % W
        · refine am_ff (show ¬ nI (c % W) ≤ 0 from nI_nle h (by omega)) ?_
          iterate 6 refine am_g0 rfl rfl ?_
          have hc1 : 1 ≤ c := by
            rcases Nat.eq_zero_or_pos c with z | z
            · rw [z, Nat.zero_mod] at h; omega
            · exact z
          have c3 : am_D shC (d - 1) mi_X8_freeOr [.ref 9, .int (nI c), .int (nI c - 1)] m2 (some (.int (nI (nxS n W K c 3))), m2) := by
            rw [show nI c - 1 = nI (c - 1) from pk_sub (b := 1) hc1]
            have := d_freeN (d := d - 1) (c := c) (by omega) hK2 (show c - 1 < n by omega)
            have e : nxS n W K c 3 = if K (c - 1) = 1 then c else c - 1 := by unfold nxS; rw [toS_3 h]
            rw [e]
            exact this
          refine ⟨(some (.int (nI (nxS n W K c 3))), m2), c3, ?_⟩
          refine am_g0 rfl rfl ?_
          exact am_kl st3 rfl
        · refine am_tt (show nI (c % W) ≤ 0 from nI_le (b := 0) (by omega) (by omega)) ?_
          refine am_go rfl ?_
          have e : nxS n W K c 3 = c := nxS_self (by unfold toS; rw [if_neg (by omega), if_neg (by omega), if_neg (by omega), if_neg h])
          rw [e] at st3
          exact am_kl st3 rfl
      have hK0 : cKinds m0 n K := hK.fr (f0.1 9 (by omega)) (f0.1 10 (by omega))
      have h0W : m0.1 9 3 = nI W := by rw [f0.1 9 (by omega)]; exact hW
      iterate 5 refine am_g0 rfl rfl ?_
      refine am_top (y := nI (c * 4 + 1)) (nI_add (c * 4) 1) ?_
      iterate 3 refine am_g0 rfl rfl ?_
      refine am_top (y := nI (c % W + 1)) (nI_1 _) ?_
      iterate 3 refine am_g0 rfl rfl ?_
      by_cases h : c % W + 1 < W
      · refine am_ff (show ¬ m0.1 9 3 ≤ nI (c % W + 1) by rw [h0W]; exact nI_ge h (by omega)) ?_
        iterate 6 refine am_g0 rfl rfl ?_
        have c1 : am_D shC (d - 1) mi_X8_freeOr [.ref 9, .int (nI c), .int (nI c + 1)] m0 (some (.int (nI (nxS n W K c 1))), m0) := by
          rw [nI_1]
          have := d_freeN (d := d - 1) (c := c) (by omega) hK0 (hdiv h)
          have e : nxS n W K c 1 = if K (c + 1) = 1 then c else c + 1 := by unfold nxS; rw [toS_1 h]
          rw [e]
          exact this
        refine ⟨(some (.int (nI (nxS n W K c 1))), m0), c1, ?_⟩
        refine am_g0 rfl rfl ?_
        exact am_kl st1 rfl
      · refine am_tt (show m0.1 9 3 ≤ nI (c % W + 1) by rw [h0W]; exact nI_le (by omega) (by omega)) ?_
        refine am_go rfl ?_
        have e : nxS n W K c 1 = c := nxS_self (by unfold toS; rw [if_neg (by omega), if_pos rfl, if_neg h])
        rw [e] at st1
        exact am_kl st1 rfl
  have := key n 0 (by omega) w am_fr.rf (fun c' h => absurd h (Nat.not_lt_zero c'))
  rw [Nat.zero_mod] at this
  exact this
