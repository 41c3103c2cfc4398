/-! storm: the class' call -/
theorem gcd_half {a b : Nat} (ha : a % 2 = 0) (hb : b % 2 = 0) : a / Nat.gcd a b = a / 2 / Nat.gcd (a / 2) (b / 2) ∧ b / Nat.gcd a b = b / 2 / Nat.gcd (a / 2) (b / 2) := by
  have h : Nat.gcd a b = 2 * Nat.gcd (a / 2) (b / 2) := by
    rw [← Nat.gcd_mul_left, show 2 * (a / 2) = a by omega, show 2 * (b / 2) = b by omega]
  rw [h, Nat.div_div_eq_div_mul, Nat.div_div_eq_div_mul]
  exact ⟨rfl, rfl⟩
theorem gcd_odd {a e : Nat} (ha : a % 2 = 1) : Nat.gcd a (2 ^ e) = 1 := by
  have h : Nat.Coprime a 2 := by
    unfold Nat.Coprime
    rw [Nat.gcd_comm, Nat.gcd_rec, ha]
    decide
  exact Nat.Coprime.pow_right e h
theorem lN_odd {a : Nat} (h : a < 2 ^ 63) : lN a &&& 1 = lN (a % 2) := by
  apply Int64.toBitVec_inj.mp
  apply BitVec.eq_of_toNat_eq
  rw [Int64.toBitVec_and, BitVec.toNat_and]
  show (BitVec.ofNat 64 a).toNat &&& 1 = (BitVec.ofNat 64 (a % 2)).toNat
  rw [BitVec.toNat_ofNat, BitVec.toNat_ofNat, Nat.and_one_is_mod]
  omega
theorem lN_half {a : Nat} (h : a < 2 ^ 63) : lN a >>> ((1 : Int32).toInt64 &&& 63) = lN (a / 2) := by
  apply Int64.toBitVec_inj.mp
  rw [Int64.toBitVec_shiftRight, show ((1 : Int32).toInt64 &&& 63).toBitVec.smod 64 = 1#64 by decide]
  show (BitVec.ofNat 64 a).sshiftRight' 1#64 = BitVec.ofNat 64 (a / 2)
  have hm : (BitVec.ofNat 64 a).msb = false := by
    rw [BitVec.msb_eq_false_iff_two_mul_lt, BitVec.toNat_ofNat]
    omega
  apply BitVec.eq_of_toNat_eq
  rw [BitVec.sshiftRight', BitVec.sshiftRight_eq_of_msb_false hm, BitVec.toNat_ushiftRight, BitVec.toNat_ofNat, BitVec.toNat_ofNat, BitVec.toNat_ofNat, Nat.shiftRight_eq_div_pow, show 1 % 2 ^ 64 = 1 from rfl]
  omega
theorem stormS_le {S : Sp} {p c l : Nat} (hc : c ≤ 16) : stormS S p c l ≤ 16 ^ (l + 1) := by
  have := stormF_le (V := S.V) (P := prS S.pf p) hc (l + 1) 0 (beginS S.V (prS S.pf p)) 1
  rw [Nat.one_mul] at this
  exact this
theorem d_chance {d p c l : Nat} {w : am_M} {S : Sp} (hd : 16 ≤ d) (h : RC w S) (hp : p < S.q) (hc : c ≤ 16) (hl : l ≤ 9) : ∃ o : am_O, (o.1 = some (.long (lN (stormS S p c l))) ∧ RC o.2 S) ∧ am_D shC d mi_X6_chanceToCome [.ref 53, .ref 16, .int (nI p), .int (nI c), .int (nI l)] w o := by
  have hq := h.q8
  have hok := h.1.P.ok hp
  have comp : am_R shC mi_X6_chanceToCome (am_D shC (d - 1)) (fun o => (o.1 = some (.long (lN (stormS S p c l))) ∧ RC o.2 S)) 36 [(0, .ref 53), (1, .ref 16), (2, .int (nI p)), (3, .int (nI c)), (5, .int (nI (l + 1)))] [] w := by
    refine am_go rfl ?_
    iterate 15 refine am_g0 rfl rfl ?_
    refine am_to (lv' := [(0, .ref 53), (1, .ref 16), (2, .int (nI p)), (3, .int (nI c)), (5, .int (nI (l + 1)))]) (st' := [.int ((am_pi (am_pi (am_pi w 53 3 (nI p)) 53 1 (nI c)) 53 2 (nI (l + 1))).1 53 3), .ref 16, .ref 55]) (w' := am_pi (am_pi (am_pi w 53 3 (nI p)) 53 1 (nI c)) 53 2 (nI (l + 1))) rfl rfl rfl ?_
    generalize hv : am_pi (am_pi (am_pi w 53 3 (nI p)) 53 1 (nI c)) 53 2 (nI (l + 1)) = v
    have ev : ∀ a, a ≠ 53 → v.1 a = w.1 a := fun a ha => by rw [← hv, am_pi_row ha, am_pi_row ha, am_pi_row ha]
    have v3 : v.1 53 3 = nI p := by rw [← hv]; rfl
    have v1 : v.1 53 1 = nI c := by rw [← hv]; rfl
    have v2 : v.1 53 2 = nI (l + 1) := by rw [← hv]; rfl
    have vL : v.2 = w.2 := by rw [← hv]; rfl
    have bv : RCb v S := h.1.fr (fun a h1 h2 => ev a (by omega)) (by rw [ev 0 (by omega)])
    refine am_top (y := nI p) (v3) ?_
    refine am_g0 rfl rfl ?_
    obtain ⟨⟨r1, w1⟩, ⟨e1, f1, g1⟩, hD1⟩ := d_wear_55 (d := d - 1) (by omega) bv.P hp
    dsimp only at e1 f1 g1
    subst e1
    refine ⟨(none, w1), hD1, ?_⟩
    refine am_to (lv' := [(0, .ref 53), (1, .ref 16), (2, .int (nI p)), (3, .int (nI c)), (5, .int (nI (l + 1)))]) (st' := []) (w' := w1) rfl rfl rfl ?_
    have V1 : cV w1 S.V := bv.V.fr (fun a ha => f1.1 a (by omega))
    iterate 5 refine am_g0 rfl rfl ?_
    obtain ⟨⟨r2, w2⟩, ⟨e2, f2, g2, g3⟩, hD2⟩ := d_begin_55 (d := d - 1) (by omega) V1 g1 hok.1
    dsimp only at e2 f2 g2 g3
    subst e2
    refine ⟨(none, w2), hD2, ?_⟩
    refine am_to (lv' := [(0, .ref 53), (1, .ref 16), (2, .int (nI p)), (3, .int (nI c)), (5, .int (nI (l + 1)))]) (st' := []) (w' := w2) rfl rfl rfl ?_
    have F2 : am_fr 55 v w2 := f1.tr f2
    iterate 5 refine am_g0 rfl rfl ?_
    obtain ⟨⟨r3, w3⟩, ⟨e3, f3⟩, hD3⟩ := d_coming (V := S.V) (P := prS S.pf p) (c := c) (L := l + 1) (by omega) hc hok (l + 1) (d - 1) (by omega) 0 _ none 1 w2 (by omega) ⟨V1.fr (fun a ha => f2.1 a (by omega)), by rw [F2.1 53 (by omega)]; exact v1, by rw [F2.1 53 (by omega)]; exact v2, g2, g3, qok_begin _⟩ (by omega)
    dsimp only at e3 f3
    subst e3
    refine ⟨(some (.long (lN (stormF S.V (prS S.pf p) c (l + 1) 0 (beginS S.V (prS S.pf p)) 1))), w3), hD3, ?_⟩
    refine am_to (lv' := [(0, .ref 53), (1, .ref 16), (2, .int (nI p)), (3, .int (nI c)), (5, .int (nI (l + 1)))]) (st' := [.long (lN (stormF S.V (prS S.pf p) c (l + 1) 0 (beginS S.V (prS S.pf p)) 1)), .ref 53]) (w' := w3) rfl rfl rfl ?_
    refine am_g0 rfl rfl ?_
    refine am_go rfl ?_
    iterate 2 refine am_g0 rfl rfl ?_
    have e3 : ∀ a, a < 55 ∨ 65 < a → w3.1 a = v.1 a := fun a ha => by rw [f3.1 a (by omega)]; exact F2.1 a (by omega)
    have e : ∀ a, a < 53 ∨ a = 54 ∨ 65 < a → w3.1 a = w.1 a := fun a ha => by rw [e3 a (by omega)]; exact ev a (by omega)
    have L3 : w3.2 = w.2 := by rw [f3.2, F2.2, vL]
    refine ⟨rfl, by simp [am_pl]; rfl, ?_⟩
    have kb : RCb (am_pl w3 53 (lN (stormS S p c l))) S := h.1.fr (fun a h1 h2 => e a (by omega)) (by show w3.1 0 16 = _; rw [e 0 (by omega)])
    have k1 : cTr (am_pl w3 53 (lN (stormS S p c l))) S := h.2.1.fr hq (fun a h1 h2 => e a (by omega)) (by show w3.1 0 17 = _; rw [e 0 (by omega)])
    have k2 : cPr (am_pl w3 53 (lN (stormS S p c l))) S := h.2.2.1.fr (e 69 (by omega)) (by show w3.1 0 18 = _; rw [e 0 (by omega)])
    have k3 : cDr (am_pl w3 53 (lN (stormS S p c l))) S := h.2.2.2.1.fr (e 70 (by omega)) (by show w3.1 0 19 = _; rw [e 0 (by omega)])
    have k4 : cSt (am_pl w3 53 (lN (stormS S p c l))) S := Or.inr ⟨p, c, l, hp, hc, hl, by show w3.1 53 3 = _; rw [e3 53 (by omega)]; exact v3, by show w3.1 53 1 = _; rw [e3 53 (by omega)]; exact v1, by show w3.1 53 2 = _; rw [e3 53 (by omega)]; exact v2, by simp [am_pl]⟩
    exact ⟨kb, k1, k2, k3, k4⟩
  refine am_dex (by omega) rfl rfl ?_
  iterate 3 refine am_g0 rfl rfl ?_
  refine am_top (y := nI l) (if_neg (nI_nlt (a := 9) hl (by omega))) ?_
  iterate 2 refine am_g0 rfl rfl ?_
  refine am_top (y := nI (l + 1)) (nI_1 l) ?_
  iterate 5 refine am_g0 rfl rfl ?_
  by_cases h3 : w.1 53 3 = nI p
  · refine am_tt (show (w.1 53 3 : Int32) = (nI p) from h3) ?_
    iterate 4 refine am_g0 rfl rfl ?_
    by_cases h1 : w.1 53 1 = nI c
    · refine am_tt (show (w.1 53 1 : Int32) = (nI c) from h1) ?_
      iterate 4 refine am_g0 rfl rfl ?_
      by_cases h2 : w.1 53 2 = nI (l + 1)
      · refine am_tt (show (w.1 53 2 : Int32) = (nI (l + 1)) from h2) ?_
        refine am_go rfl ?_
        iterate 2 refine am_g0 rfl rfl ?_
        rcases h.2.2.2.2 with z | ⟨p', c', l', z1, z2, z3, z4, z5, z6, z7⟩
        · exact absurd (h3.symm.trans z) (nI_m1 (by omega))
        · have ep : p' = p := (nI_eq (by omega) (by omega)).mp (z4.symm.trans h3)
          have ec : c' = c := (nI_eq (by omega) (by omega)).mp (z5.symm.trans h1)
          have el : l' + 1 = l + 1 := (nI_eq (by omega) (by omega)).mp (z6.symm.trans h2)
          have el : l' = l := by omega
          subst ep ec el
          exact ⟨rfl, by rw [z7], h⟩
      · refine am_ff (show ¬ (w.1 53 2 : Int32) = (nI (l + 1)) from h2) ?_
        exact am_kl comp rfl
    · refine am_ff (show ¬ (w.1 53 1 : Int32) = (nI c) from h1) ?_
      exact am_kl comp rfl
  · refine am_ff (show ¬ (w.1 53 3 : Int32) = (nI p) from h3) ?_
    exact am_kl comp rfl
def stormR (S : Sp) (p c l k : Nat) : Nat := if k = 0 then stormS S p c l / Nat.gcd (stormS S p c l) (16 ^ (l + 1)) else 16 ^ (l + 1) / Nat.gcd (stormS S p c l) (16 ^ (l + 1))
def stormQ (S : Sp) (x y z t : Int32) : Int64 := match dI x 17, dI y 10, dI z S.q, dI t 2 with
  | some c, some l, some p, some k => lN (stormR S p c l k)
  | _, _, _, _ => -9223372036854775806
set_option maxHeartbeats 1000000 in
theorem d_storm {d : Nat} {x y z t : Int32} {w : am_M} {S : Sp} (hd : 18 ≤ d) (h : RC w S) : ∃ o : am_O, (o.1 = some (.long (stormQ S x y z t)) ∧ RC o.2 S) ∧ am_D shC d mi_X11_storm [.ref 0, .int x, .int y, .int z, .int t] w o := by
  have hq := h.q8
  rcases dI_or x 17 (by decide) with hx | ⟨c, hc, rfl, hx⟩
  · refine am_dex (by omega) rfl rfl ?_
    iterate 3 refine am_g0 rfl rfl ?_
    refine ⟨(some (.int 0), w), d_isWn shC (n := 17) (by omega) hx, ?_⟩
    refine am_to (lv' := [(0, .ref 0), (1, .int x), (2, .int y), (3, .int z), (4, .int t)]) (st' := [.int 0]) (w' := w) rfl rfl rfl ?_
    refine am_g0 rfl rfl ?_
    refine am_go rfl ?_
    refine am_g0 rfl rfl ?_
    exact ⟨rfl, by unfold stormQ; rw [hx], h⟩
  · rcases dI_or y 10 (by decide) with hy | ⟨l, hl, rfl, hy⟩
    · refine am_dex (by omega) rfl rfl ?_
      iterate 3 refine am_g0 rfl rfl ?_
      refine ⟨(some (.int 1), w), d_isWs shC (n := 17) (by omega) hc (by decide), ?_⟩
      refine am_to (lv' := [(0, .ref 0), (1, .int (nI c)), (2, .int y), (3, .int z), (4, .int t)]) (st' := [.int 1]) (w' := w) rfl rfl rfl ?_
      iterate 4 refine am_g0 rfl rfl ?_
      refine ⟨(some (.int 0), w), d_isWn shC (n := 10) (by omega) hy, ?_⟩
      refine am_to (lv' := [(0, .ref 0), (1, .int (nI c)), (2, .int y), (3, .int z), (4, .int t)]) (st' := [.int 0]) (w' := w) rfl rfl rfl ?_
      refine am_g0 rfl rfl ?_
      refine am_go rfl ?_
      refine am_g0 rfl rfl ?_
      exact ⟨rfl, by unfold stormQ; rw [hx, hy], h⟩
    · rcases dI_or z S.q (by omega) with hz | ⟨p, hp, rfl, hz⟩
      · refine am_dex (by omega) rfl rfl ?_
        iterate 3 refine am_g0 rfl rfl ?_
        refine ⟨(some (.int 1), w), d_isWs shC (n := 17) (by omega) hc (by decide), ?_⟩
        refine am_to (lv' := [(0, .ref 0), (1, .int (nI c)), (2, .int (nI l)), (3, .int z), (4, .int t)]) (st' := [.int 1]) (w' := w) rfl rfl rfl ?_
        iterate 4 refine am_g0 rfl rfl ?_
        refine ⟨(some (.int 1), w), d_isWs shC (n := 10) (by omega) hl (by decide), ?_⟩
        refine am_to (lv' := [(0, .ref 0), (1, .int (nI c)), (2, .int (nI l)), (3, .int z), (4, .int t)]) (st' := [.int 1]) (w' := w) rfl rfl rfl ?_
        iterate 5 refine am_g0 rfl rfl ?_
        refine am_top (y := nI S.q) (h.1.P.1) ?_
        refine am_g0 rfl rfl ?_
        refine ⟨(some (.int 0), w), d_isWn shC (by omega) hz, ?_⟩
        refine am_to (lv' := [(0, .ref 0), (1, .int (nI c)), (2, .int (nI l)), (3, .int z), (4, .int t)]) (st' := [.int 0]) (w' := w) rfl rfl rfl ?_
        refine am_g0 rfl rfl ?_
        refine am_go rfl ?_
        refine am_g0 rfl rfl ?_
        exact ⟨rfl, by unfold stormQ; rw [hx, hy, hz], h⟩
      · rcases dI_or t 2 (by decide) with ht | ⟨k, hk, rfl, ht⟩
        · refine am_dex (by omega) rfl rfl ?_
          iterate 3 refine am_g0 rfl rfl ?_
          refine ⟨(some (.int 1), w), d_isWs shC (n := 17) (by omega) hc (by decide), ?_⟩
          refine am_to (lv' := [(0, .ref 0), (1, .int (nI c)), (2, .int (nI l)), (3, .int (nI p)), (4, .int t)]) (st' := [.int 1]) (w' := w) rfl rfl rfl ?_
          iterate 4 refine am_g0 rfl rfl ?_
          refine ⟨(some (.int 1), w), d_isWs shC (n := 10) (by omega) hl (by decide), ?_⟩
          refine am_to (lv' := [(0, .ref 0), (1, .int (nI c)), (2, .int (nI l)), (3, .int (nI p)), (4, .int t)]) (st' := [.int 1]) (w' := w) rfl rfl rfl ?_
          iterate 5 refine am_g0 rfl rfl ?_
          refine am_top (y := nI S.q) (h.1.P.1) ?_
          refine am_g0 rfl rfl ?_
          refine ⟨(some (.int 1), w), d_isWs shC (by omega) hp (by omega), ?_⟩
          refine am_to (lv' := [(0, .ref 0), (1, .int (nI c)), (2, .int (nI l)), (3, .int (nI p)), (4, .int t)]) (st' := [.int 1]) (w' := w) rfl rfl rfl ?_
          iterate 4 refine am_g0 rfl rfl ?_
          refine ⟨(some (.int 0), w), d_isWn shC (n := 2) (by omega) ht, ?_⟩
          refine am_to (lv' := [(0, .ref 0), (1, .int (nI c)), (2, .int (nI l)), (3, .int (nI p)), (4, .int t)]) (st' := [.int 0]) (w' := w) rfl rfl rfl ?_
          refine am_g0 rfl rfl ?_
          refine am_go rfl ?_
          refine am_g0 rfl rfl ?_
          exact ⟨rfl, by unfold stormQ; rw [hx, hy, hz, ht], h⟩
        · have hS : stormQ S (nI c) (nI l) (nI p) (nI k) = lN (stormR S p c l k) := by unfold stormQ; rw [hx, hy, hz, ht]
          rw [hS]
          refine am_dex (by omega) rfl rfl ?_
          iterate 3 refine am_g0 rfl rfl ?_
          refine ⟨(some (.int 1), w), d_isWs shC (n := 17) (by omega) hc (by decide), ?_⟩
          refine am_to (lv' := [(0, .ref 0), (1, .int (nI c)), (2, .int (nI l)), (3, .int (nI p)), (4, .int (nI k))]) (st' := [.int 1]) (w' := w) rfl rfl rfl ?_
          iterate 4 refine am_g0 rfl rfl ?_
          refine ⟨(some (.int 1), w), d_isWs shC (n := 10) (by omega) hl (by decide), ?_⟩
          refine am_to (lv' := [(0, .ref 0), (1, .int (nI c)), (2, .int (nI l)), (3, .int (nI p)), (4, .int (nI k))]) (st' := [.int 1]) (w' := w) rfl rfl rfl ?_
          iterate 5 refine am_g0 rfl rfl ?_
          refine am_top (y := nI S.q) (h.1.P.1) ?_
          refine am_g0 rfl rfl ?_
          refine ⟨(some (.int 1), w), d_isWs shC (by omega) hp (by omega), ?_⟩
          refine am_to (lv' := [(0, .ref 0), (1, .int (nI c)), (2, .int (nI l)), (3, .int (nI p)), (4, .int (nI k))]) (st' := [.int 1]) (w' := w) rfl rfl rfl ?_
          iterate 4 refine am_g0 rfl rfl ?_
          refine ⟨(some (.int 1), w), d_isWs shC (n := 2) (by omega) hk (by decide), ?_⟩
          refine am_to (lv' := [(0, .ref 0), (1, .int (nI c)), (2, .int (nI l)), (3, .int (nI p)), (4, .int (nI k))]) (st' := [.int 1]) (w' := w) rfl rfl rfl ?_
          refine am_g0 rfl rfl ?_
          refine am_go rfl ?_
          iterate 7 refine am_g0 rfl rfl ?_
          obtain ⟨⟨r1, w1⟩, ⟨e1, g1⟩, hD1⟩ := d_chance (d := d - 1) (p := p) (c := c) (l := l) (by omega) h hp (by omega) (by omega)
          dsimp only at e1 g1
          subst e1
          refine ⟨(some (.long (lN (stormS S p c l))), w1), hD1, ?_⟩
          refine am_to (lv' := [(0, .ref 0), (1, .int (nI c)), (2, .int (nI l)), (3, .int (nI p)), (4, .int (nI k))]) (st' := [.long (lN (stormS S p c l))]) (w' := w1) rfl rfl rfl ?_
          have hN := stormS_le (S := S) (p := p) (c := c) (l := l) (by omega)
          have hB := p16 (s := l + 1) (by omega)
          have eB : 16 ^ (l + 1) = 2 ^ (4 * (l + 1)) := by rw [show (16 : Nat) = 2 ^ 4 from rfl, ← Nat.pow_mul]
          unfold stormR
          generalize stormS S p c l = N at hN ⊢
          obtain ⟨B, hBe⟩ : ∃ B, B = 16 ^ (l + 1) := ⟨_, rfl⟩
          rw [← hBe] at hN hB ⊢
          iterate 6 refine am_g0 rfl rfl ?_
          refine am_top (y := nI (l + 1)) (nI_1 l) ?_
          iterate 2 refine am_g0 rfl rfl ?_
          refine am_topL (y := lN B) (by rw [hBe]; have := sh4 1 (l + 1) (by omega); rw [Nat.one_mul] at this; exact this) ?_
          iterate 3 refine am_g0 rfl rfl ?_
          have key : ∀ e i a b : Nat, i + e = 4 * (l + 1) → b = 2 ^ e → a ≤ 2 ^ 40 → b ≤ 2 ^ 40 → N / Nat.gcd N B = a / Nat.gcd a b → B / Nat.gcd N B = b / Nat.gcd a b → am_R shC mi_X11_storm (am_D shC (d - 1)) (fun o => o.1 = some (.long (lN (if k = 0 then N / Nat.gcd N B else B / Nat.gcd N B))) ∧ RC o.2 S) 73 [(4, .int (nI k)), (5, .long (lN a)), (7, .long (lN b)), (9, .int (nI i))] [] w1 := by
            have fin : ∀ a b : Nat, Nat.gcd a b = 1 → N / Nat.gcd N B = a / Nat.gcd a b → B / Nat.gcd N B = b / Nat.gcd a b → am_R shC mi_X11_storm (am_D shC (d - 1)) (fun o => o.1 = some (.long (lN (if k = 0 then N / Nat.gcd N B else B / Nat.gcd N B))) ∧ RC o.2 S) 114 [(4, .int (nI k)), (5, .long (lN a)), (7, .long (lN b))] [] w1 := by
              intro a b hg h1 h2
              refine am_go rfl ?_
              refine am_g0 rfl rfl ?_
              by_cases k0 : k = 0
              · refine am_tt (show (nI k : Int32) = 0 from by rw [k0]; rfl) ?_
                iterate 2 refine am_g0 rfl rfl ?_
                refine am_go rfl ?_
                exact ⟨rfl, by rw [if_pos k0, h1, hg, Nat.div_one], g1⟩
              · refine am_ff (show ¬ (nI k : Int32) = 0 from nne (b := 0) k0 (by omega) (by omega)) ?_
                refine am_go rfl ?_
                refine am_go rfl ?_
                exact ⟨rfl, by rw [if_neg k0, h2, hg, Nat.div_one], g1⟩
            intro e
            induction e with
            | zero =>
              intro i a b hi hb ha hb2 h1 h2
              have hb1 : b = 1 := hb
              refine am_go rfl ?_
              iterate 2 refine am_g0 rfl rfl ?_
              by_cases h40 : 40 ≤ i
              · refine am_tt (show (40 : Int32) ≤ (nI i) from nI_le (a := 40) h40 (by omega)) ?_
                exact am_kl (fin a b (by rw [hb1, Nat.gcd_one_right]) h1 h2) rfl
              · refine am_ff (show ¬ (40 : Int32) ≤ (nI i) from nI_ge (b := 40) (by omega) (by omega)) ?_
                iterate 4 refine am_g0 rfl rfl ?_
                refine am_tt (show (lg_cmp (lN b) 1 : Int32) ≤ 0 from (lg_cmp_le (lN b) 1).mpr ((pk_lLE (b := 1) (by omega) (by omega)).mpr (by omega))) ?_
                exact am_kl (fin a b (by rw [hb1, Nat.gcd_one_right]) h1 h2) rfl
            | succ e ih =>
              intro i a b hi hb ha hb2 h1 h2
              have hbe : b = 2 * 2 ^ e := by rw [hb, Nat.pow_succ, Nat.mul_comm]
              have he := Nat.one_le_two_pow (n := e)
              refine am_go rfl ?_
              iterate 2 refine am_g0 rfl rfl ?_
              refine am_ff (show ¬ (40 : Int32) ≤ (nI i) from nI_ge (b := 40) (by omega) (by omega)) ?_
              iterate 4 refine am_g0 rfl rfl ?_
              refine am_ff (show ¬ (lg_cmp (lN b) 1 : Int32) ≤ 0 from fun z => absurd ((pk_lLE (b := 1) (by omega) (by omega)).mp ((lg_cmp_le (lN b) 1).mp z)) (by omega)) ?_
              iterate 6 refine am_g0 rfl rfl ?_
              by_cases hodd : a % 2 = 0
              · refine am_tt (show (lg_cmp ((lN a) &&& 1) 0 : Int32) = 0 from by rw [lN_odd (by omega), hodd]; exact (lg_cmp_eq (lN 0) 0).mpr rfl) ?_
                iterate 3 refine am_g0 rfl rfl ?_
                refine am_topL (y := lN (a / 2)) (lN_half (by omega)) ?_
                iterate 4 refine am_g0 rfl rfl ?_
                refine am_topL (y := lN (b / 2)) (lN_half (by omega)) ?_
                iterate 3 refine am_g0 rfl rfl ?_
                obtain ⟨j1, j2⟩ := gcd_half (a := a) (b := b) hodd (by omega)
                have this := ih (i + 1) (a / 2) (b / 2) (by omega) (by omega) (by omega) (by omega) (by rw [h1]; exact j1) (by rw [h2]; exact j2)
                rw [← nI_1] at this
                exact am_kl this rfl
              · refine am_ff (show ¬ (lg_cmp ((lN a) &&& 1) 0 : Int32) = 0 from fun z => by rw [lN_odd (by omega), lg_cmp_eq, show a % 2 = 1 by omega] at z; exact absurd z (by decide)) ?_
                exact am_kl (fin a b (by rw [hb]; exact gcd_odd (by omega)) h1 h2) rfl
          exact am_kl (key (4 * (l + 1)) 0 N B (by omega) (by rw [hBe]; exact eB) (by omega) hB rfl rfl) rfl
