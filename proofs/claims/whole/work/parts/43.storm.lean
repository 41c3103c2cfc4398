/-! storm: the class -/
theorem sh_Wk (i : Nat) (hi : i < 11) : am_isb shC (55 + i) 10 = true ∧ ([55, 56, 57, 58, 59, 60, 61, 62, 63, 64, 65] : List Nat)[i]? = some (55 + i) := by
  match i, hi with
  | 0, _ => exact ⟨rfl, rfl⟩
  | 1, _ => exact ⟨rfl, rfl⟩
  | 2, _ => exact ⟨rfl, rfl⟩
  | 3, _ => exact ⟨rfl, rfl⟩
  | 4, _ => exact ⟨rfl, rfl⟩
  | 5, _ => exact ⟨rfl, rfl⟩
  | 6, _ => exact ⟨rfl, rfl⟩
  | 7, _ => exact ⟨rfl, rfl⟩
  | 8, _ => exact ⟨rfl, rfl⟩
  | 9, _ => exact ⟨rfl, rfl⟩
  | 10, _ => exact ⟨rfl, rfl⟩
theorem d_become {d T U : Nat} {P : Pr} {q : Qs} {b : Option Nat} {w : am_M} (hd : 1 ≤ d) (hT : am_isb shC T 10 = true) (hU : am_isb shC U 10 = true) (hne : U ≠ T) (hP : wkP (w.1 U) P) (hQ : wkQ (w.1 U) q b) : ∃ o : am_O, (o.1 = none ∧ am_fr T w o.2 ∧ wkP (o.2.1 T) P ∧ wkQ (o.2.1 T) q b) ∧ am_D shC d mi_X10_become [.ref T, .ref U] w o := by
  refine am_dex (by omega) rfl rfl ?_
  iterate 3 refine am_g0 rfl rfl ?_
  refine am_ys hU ?_
  refine am_top (y := nI P.1) (hP.1) ?_
  refine am_g0 rfl rfl ?_
  refine am_ys (show (am_isb shC T 10 && true) = true by rw [hT]; rfl) ?_
  iterate 3 refine am_g0 rfl rfl ?_
  refine am_ys hU ?_
  refine am_top (y := nI P.2.1) (by simp only [am_pi_row hne]; exact hP.2.1) ?_
  refine am_g0 rfl rfl ?_
  refine am_ys (show (am_isb shC T 10 && true) = true by rw [hT]; rfl) ?_
  iterate 3 refine am_g0 rfl rfl ?_
  refine am_ys hU ?_
  refine am_top (y := nI P.2.2.1) (by simp only [am_pi_row hne]; exact hP.2.2.1) ?_
  refine am_g0 rfl rfl ?_
  refine am_ys (show (am_isb shC T 10 && true) = true by rw [hT]; rfl) ?_
  iterate 3 refine am_g0 rfl rfl ?_
  refine am_ys hU ?_
  refine am_top (y := nI P.2.2.2.1) (by simp only [am_pi_row hne]; exact hP.2.2.2.1) ?_
  refine am_g0 rfl rfl ?_
  refine am_ys (show (am_isb shC T 10 && true) = true by rw [hT]; rfl) ?_
  iterate 3 refine am_g0 rfl rfl ?_
  refine am_ys hU ?_
  refine am_top (y := nI P.2.2.2.2) (by simp only [am_pi_row hne]; exact hP.2.2.2.2) ?_
  refine am_g0 rfl rfl ?_
  refine am_ys (show (am_isb shC T 10 && true) = true by rw [hT]; rfl) ?_
  iterate 3 refine am_g0 rfl rfl ?_
  refine am_ys hU ?_
  refine am_top (y := plc q) (by simp only [am_pi_row hne]; exact hQ.1) ?_
  refine am_g0 rfl rfl ?_
  refine am_ys (show (am_isb shC T 10 && true) = true by rw [hT]; rfl) ?_
  iterate 3 refine am_g0 rfl rfl ?_
  refine am_ys hU ?_
  refine am_top (y := nI q.2.1) (by simp only [am_pi_row hne]; exact hQ.2.1) ?_
  refine am_g0 rfl rfl ?_
  refine am_ys (show (am_isb shC T 10 && true) = true by rw [hT]; rfl) ?_
  iterate 3 refine am_g0 rfl rfl ?_
  refine am_ys hU ?_
  refine am_top (y := nI q.2.2.1) (by simp only [am_pi_row hne]; exact hQ.2.2.1) ?_
  refine am_g0 rfl rfl ?_
  refine am_ys (show (am_isb shC T 10 && true) = true by rw [hT]; rfl) ?_
  iterate 3 refine am_g0 rfl rfl ?_
  refine am_ys hU ?_
  refine am_top (y := nI q.2.2.2.1) (by simp only [am_pi_row hne]; exact hQ.2.2.2.1) ?_
  refine am_g0 rfl rfl ?_
  refine am_ys (show (am_isb shC T 10 && true) = true by rw [hT]; rfl) ?_
  iterate 3 refine am_g0 rfl rfl ?_
  refine am_ys hU ?_
  refine am_top (y := nI q.2.2.2.2) (by simp only [am_pi_row hne]; exact hQ.2.2.2.2.1) ?_
  refine am_g0 rfl rfl ?_
  refine am_ys (show (am_isb shC T 10 && true) = true by rw [hT]; rfl) ?_
  iterate 3 refine am_g0 rfl rfl ?_
  refine am_ys hU ?_
  refine am_top (y := wbI b) (by simp only [am_pi_row hne]; exact hQ.2.2.2.2.2) ?_
  refine am_g0 rfl rfl ?_
  refine am_ys (show (am_isb shC T 10 && true) = true by rw [hT]; rfl) ?_
  refine am_g0 rfl rfl ?_
  refine ⟨rfl, rfl, ?_, ⟨?_, ?_, ?_, ?_, ?_⟩, ?_, ?_, ?_, ?_, ?_, ?_⟩
  · exact (((((((((((am_fr.rf.pi).pi).pi).pi).pi).pi).pi).pi).pi).pi).pi)
  · simp [am_pi]
  · simp [am_pi]
  · simp [am_pi]
  · simp [am_pi]
  · simp [am_pi]
  · simp [am_pi]
  · simp [am_pi]
  · simp [am_pi]
  · simp [am_pi]
  · simp [am_pi]
  · simp [am_pi]
theorem goS_stay {V : Wd} {P : Pr} {s : Nat} {r : Bool} {q : Qs} (h : q.2.1 ≠ 0) : (goS V P s r q).1 = q := by unfold goS; rw [if_pos h]
theorem endF_stay {V : Wd} {P : Pr} {q : Qs} (h : q.2.1 ≠ 0) : ∀ k s, endF V P k s q = q
  | 0, _ => rfl
  | k + 1, s => by rw [endF, goS_stay h]; exact endF_stay h k (s + 1)
theorem lN_shl (n : Nat) {y : Int64} {k : Nat} (hy : (y.toBitVec.smod 64).toNat = k) : lN n <<< y = lN (n * 2 ^ k) := by
  apply Int64.toBitVec_inj.mp
  rw [Int64.toBitVec_shiftLeft, show ∀ n, (lN n).toBitVec = BitVec.ofNat 64 n from fun _ => rfl, show ∀ n, (lN n).toBitVec = BitVec.ofNat 64 n from fun _ => rfl, BitVec.shiftLeft_eq', hy]
  apply BitVec.eq_of_toNat_eq
  rw [BitVec.toNat_shiftLeft, BitVec.toNat_ofNat, BitVec.toNat_ofNat, Nat.shiftLeft_eq, Nat.mod_mul_mod]
theorem sh4 (n : Nat) : ∀ k, k ≤ 10 → lN n <<< (((4 : Int32) * nI k).toInt64 &&& 63) = lN (n * 16 ^ k) := by
  intro k hk
  have e : 16 ^ k = 2 ^ (4 * k) := by rw [show (16 : Nat) = 2 ^ 4 from rfl, ← Nat.pow_mul]
  rw [e]
  apply lN_shl
  have : ∀ k, k < 11 → ((((4 : Int32) * nI k).toInt64 &&& 63).toBitVec.smod 64).toNat = 4 * k := by decide +kernel
  exact this k (by omega)
theorem p16 {s : Nat} (h : s ≤ 10) : 16 ^ s ≤ 2 ^ 40 := by
  have := Nat.pow_le_pow_right (n := 16) (by omega) h
  have e : (16 : Nat) ^ 10 = 2 ^ 40 := by decide
  omega
theorem p16s (s : Nat) : 16 ^ (s + 1) = 16 * 16 ^ s := by rw [Nat.pow_succ, Nat.mul_comm]
theorem lc0 {n : Nat} (h : n < 2 ^ 63) : lg_cmp (lN n) 0 = 0 ↔ n = 0 := by
  rw [lg_cmp_eq]
  exact pk_lEQ (b := 0) h (by omega)
/-- the cells of the storm that lie ahead -/
def stFr (s : Nat) (w w' : am_M) : Prop := (∀ a, a < 55 + s ∨ 65 < a → w'.1 a = w.1 a) ∧ w'.2 = w.2
def stOK (w : am_M) (V : Wd) (P : Pr) (c L s : Nat) (q : Qs) (b : Option Nat) : Prop := cV w V ∧ w.1 53 1 = nI c ∧ w.1 53 2 = nI L ∧ wkP (w.1 (55 + s)) P ∧ wkQ (w.1 (55 + s)) q b ∧ qok V P q s
theorem stFr.V {s : Nat} {w w' : am_M} {V : Wd} (h : stFr s w w') (hV : cV w V) : cV w' V := hV.fr (fun a ha => h.1 a (by omega))
theorem stFr.of {s i : Nat} {w w' : am_M} (h : am_fr (55 + i) w w') (hs : s ≤ i) (hi : i ≤ 10) : stFr s w w' := ⟨fun a ha => h.1 a (by omega), h.2⟩
theorem stFr.tr {s : Nat} {w w' w'' : am_M} (h : stFr s w w') (h' : stFr s w' w'') : stFr s w w'' := ⟨fun a ha => (h'.1 a ha).trans (h.1 a ha), h'.2.trans h.2⟩
theorem stFr.up {s : Nat} {w w' : am_M} (h : stFr (s + 1) w w') : stFr s w w' := ⟨fun a ha => h.1 a (by omega), h.2⟩
theorem stormF_le {V : Wd} {P : Pr} {c : Nat} (hc : c ≤ 16) : ∀ k s q n, stormF V P c k s q n ≤ n * 16 ^ k
  | 0, s, q, n => by
    rw [stormF]
    split
    · omega
    · split
      · split <;> omega
      · split <;> omega
  | k + 1, s, q, n => by
    rw [stormF]
    split
    · omega
    · split
      · split <;> omega
      · have h1 := stormF_le (V := V) (P := P) hc k (s + 1) (goS V P s true q).1 (n * c)
        have h2 := stormF_le (V := V) (P := P) hc k (s + 1) (goS V P s false q).1 (n * (16 - c))
        have e : n * 16 ^ (k + 1) = n * c * 16 ^ k + n * (16 - c) * 16 ^ k := by
          rw [p16s, ← Nat.add_mul, ← Nat.mul_add, show c + (16 - c) = 16 by omega, Nat.mul_assoc]
        omega
def stP (V : Wd) (P : Pr) (c L k d : Nat) : Prop := ∀ s q b n w, s + k = L → stOK w V P c L s q b → n ≤ 16 ^ s → ∃ o : am_O, (o.1 = some (.long (lN (stormF V P c k s q n))) ∧ stFr s w o.2) ∧ am_D shC d mi_X6_comingFrom [.ref 53, .int (nI s), .long (lN n)] w o
set_option maxHeartbeats 1000000 in
theorem d_coming_1 {V : Wd} {P : Pr} {c L k d : Nat} (hd : 4 ≤ d) (hL : L ≤ 10) (hc : c ≤ 16) (hPb : Pok P) (ih : ∀ k', k = k' + 1 → stP V P c L k' (d - 1)) : stP V P c L k d := by
  intro s q b n w hs hok hn
  obtain ⟨hV, h1, h2, hP, hQ, hq⟩ := hok
  obtain ⟨t1, t2⟩ := sh_Wk s (by omega)
  have hn2 : n < 2 ^ 63 := by
    have := p16 (s := s) (by omega)
    omega
  have h2' : lN n = 0 ↔ n = 0 := pk_lEQ (b := 0) hn2 (by omega)
  refine am_dex (by omega) rfl rfl ?_
  iterate 4 refine am_g0 rfl rfl ?_
  refine am_ff (show ¬ nI s < 0 from nI_pos (by omega)) (am_oi (a := 55 + s) (by rw [nI_clamp (by omega)]; exact t2) ?_)
  iterate 5 refine am_g0 rfl rfl ?_
  by_cases h0 : n = 0
  · refine am_tt (show (lg_cmp (lN n) 0 : Int32) = 0 from (lc0 hn2).mpr h0) ?_
    iterate 2 refine am_g0 rfl rfl ?_
    refine ⟨rfl, ?_, fun _ _ => rfl, rfl⟩
    cases k with
    | zero => rw [stormF, if_pos h0]; rfl
    | succ k => rw [stormF, if_pos h0]; rfl
  · refine am_ff (show ¬ (lg_cmp (lN n) 0 : Int32) = 0 from fun z => h0 ((lc0 hn2).mp z)) ?_
    refine am_go rfl ?_
    refine am_g0 rfl rfl ?_
    refine am_ys t1 ?_
    refine am_g0 rfl rfl ?_
    have hq8 : w.1 (55 + s) 8 = nI q.2.1 := hQ.2.1
    have hq4 := hq.1
    by_cases hz : q.2.1 = 0
    · refine am_tt (show (w.1 (55 + s) 8 : Int32) = 0 from by rw [hq8, hz]; rfl) ?_
      refine am_go rfl ?_
      iterate 3 refine am_g0 rfl rfl ?_
      cases k with
      | zero =>
        have hsL : s = L := by omega
        subst hsL
        refine am_ff (show ¬ (nI s : Int32) < (w.1 53 2) from by rw [h2]; exact nI_nlt (Nat.le_refl s) (by omega)) ?_
        iterate 2 refine am_g0 rfl rfl ?_
        have key : ∀ j t : Nat, t + j = 30 → s ≤ t → ∀ (m : am_M) (q' : Qs) (b' : Option Nat), am_fr (55 + s) w m → wkP (m.1 (55 + s)) P → wkQ (m.1 (55 + s)) q' b' → qok V P q' t → endF V P (30 - s) s q = endF V P j t q' → am_R shC mi_X6_comingFrom (am_D shC (d - 1)) (fun o => o.1 = some (.long (lN (stormF V P c 0 s q n))) ∧ stFr s w o.2) 59 [(2, .long (lN n)), (4, .ref (55 + s)), (5, .int (nI t))] [] m := by
          have fin : ∀ (m : am_M) (q' : Qs) (b' : Option Nat), am_fr (55 + s) w m → wkQ (m.1 (55 + s)) q' b' → q'.2.1 < 4 → endF V P (30 - s) s q = q' → am_R shC mi_X6_comingFrom (am_D shC (d - 1)) (fun o => o.1 = some (.long (lN (stormF V P c 0 s q n))) ∧ stFr s w o.2) 88 [(2, .long (lN n)), (4, .ref (55 + s))] [] m := by
            intro m q' b' hf hQ' hq4' hE
            refine am_go rfl ?_
            refine am_g0 rfl rfl ?_
            refine am_ys t1 ?_
            iterate 2 refine am_g0 rfl rfl ?_
            by_cases h1 : q'.2.1 = 1
            · refine am_tt (show (m.1 (55 + s) 8 : Int32) = 1 from by rw [hQ'.2.1, h1]; rfl) ?_
              iterate 2 refine am_g0 rfl rfl ?_
              refine am_go rfl ?_
              refine ⟨rfl, ?_, stFr.of hf (Nat.le_refl s) (by omega)⟩
              rw [stormF, if_neg h0, if_neg (fun z => z hz), hE, if_pos h1]
            · refine am_ff (show ¬ (m.1 (55 + s) 8 : Int32) = 1 from by rw [hQ'.2.1]; exact nne (b := 1) h1 (by omega) (by omega)) ?_
              refine am_go rfl ?_
              refine am_go rfl ?_
              refine ⟨rfl, ?_, stFr.of hf (Nat.le_refl s) (by omega)⟩
              rw [stormF, if_neg h0, if_neg (fun z => z hz), hE, if_neg h1]
              rfl
          intro j
          induction j with
          | zero =>
            intro t ht hst m q' b' hf hP' hQ' hq' hE
            refine am_go rfl ?_
            iterate 2 refine am_g0 rfl rfl ?_
            refine am_tt (show (30 : Int32) ≤ (nI t) from nI_le (a := 30) (by omega) (by omega)) ?_
            exact am_kl (fin m q' b' hf hQ' hq'.1 hE) rfl
          | succ j ih2 =>
            intro t ht hst m q' b' hf hP' hQ' hq' hE
            refine am_go rfl ?_
            iterate 2 refine am_g0 rfl rfl ?_
            refine am_ff (show ¬ (30 : Int32) ≤ (nI t) from nI_ge (b := 30) (by omega) (by omega)) ?_
            iterate 2 refine am_g0 rfl rfl ?_
            refine am_ys t1 ?_
            refine am_g0 rfl rfl ?_
            by_cases hz' : q'.2.1 = 0
            · refine am_tt (show (m.1 (55 + s) 8 : Int32) = 0 from by rw [hQ'.2.1, hz']; rfl) ?_
              iterate 4 refine am_g0 rfl rfl ?_
              refine am_ys (show (true && (true && am_isb shC (55 + s) 10)) = true by rw [t1]; rfl) ?_
              obtain ⟨⟨r3, w3⟩, ⟨e3, f3, g3, g4⟩, hD3⟩ := d_go_any (d := d - 1) (i := s) (s := t) (r := false) (by omega) (by omega) (hV.fr (fun a ha => hf.1 a (by omega))) hP' hPb hQ' hq' (by omega)
              dsimp only at e3 f3 g3 g4
              subst e3
              refine ⟨(none, w3), hD3, ?_⟩
              refine am_to (lv' := [(2, .long (lN n)), (4, .ref (55 + s)), (5, .int (nI t))]) (st' := []) (w' := w3) rfl rfl rfl ?_
              iterate 2 refine am_g0 rfl rfl ?_
              have this := ih2 (t + 1) (by omega) (by omega) w3 _ _ (hf.tr f3) g3 g4 (qok_go false hV.good hPb hq') hE
              rw [← nI_1] at this
              exact am_kl this rfl
            · refine am_ff (show ¬ (m.1 (55 + s) 8 : Int32) = 0 from by rw [hQ'.2.1]; exact nne (b := 0) hz' (by have := hq'.1; omega) (by omega)) ?_
              exact am_kl (fin m q' b' hf hQ' hq'.1 (by rw [hE, endF_stay hz'])) rfl
        exact am_kl (key (30 - s) s (by omega) (Nat.le_refl s) w q b am_fr.rf hP hQ hq rfl) rfl
      | succ k =>
        have ih := ih k rfl
        refine am_tt (show (nI s : Int32) < (w.1 53 2) from by rw [h2]; exact nI_lt (by omega) (by omega)) ?_
        refine am_go rfl ?_
        iterate 4 refine am_g0 rfl rfl ?_
        refine am_top (y := nI (s + 1)) (nI_1 s) ?_
        obtain ⟨u1, u2⟩ := sh_Wk (s + 1) (by omega)
        refine am_g0 rfl rfl ?_
        refine am_ff (show ¬ nI (s + 1) < 0 from nI_pos (by omega)) (am_oi (a := 55 + (s + 1)) (by rw [nI_clamp (by omega)]; exact u2) ?_)
        iterate 4 refine am_g0 rfl rfl ?_
        refine am_ys (show (true && (true && am_isb shC (55 + (s + 1)) 10)) = true by rw [u1]; rfl) ?_
        obtain ⟨⟨r3, w3⟩, ⟨e3, f3, g3, g4⟩, hD3⟩ := d_become (d := d - 1) (T := 55 + (s + 1)) (U := 55 + s) (by omega) u1 t1 (by omega) hP hQ
        dsimp only at e3 f3 g3 g4
        subst e3
        refine ⟨(none, w3), hD3, ?_⟩
        refine am_to (lv' := [(0, .ref 53), (1, .int (nI s)), (2, .long (lN n)), (4, .ref (55 + s)), (5, .ref (55 + (s + 1)))]) (st' := []) (w' := w3) rfl rfl rfl ?_
        iterate 4 refine am_g0 rfl rfl ?_
        refine am_ys (show (true && (true && am_isb shC (55 + (s + 1)) 10)) = true by rw [u1]; rfl) ?_
        obtain ⟨⟨r4, w4⟩, ⟨e4, f4, g5, g6⟩, hD4⟩ := d_go_any (d := d - 1) (i := s + 1) (s := s) (r := true) (by omega) (by omega) (hV.fr (fun a ha => f3.1 a (by omega))) g3 hPb g4 hq (by omega)
        dsimp only at e4 f4 g5 g6
        subst e4
        refine ⟨(none, w4), hD4, ?_⟩
        refine am_to (lv' := [(0, .ref 53), (1, .int (nI s)), (2, .long (lN n)), (4, .ref (55 + s)), (5, .ref (55 + (s + 1)))]) (st' := []) (w' := w4) rfl rfl rfl ?_
        have F4 : am_fr (55 + (s + 1)) w w4 := f3.tr f4
        iterate 9 refine am_g0 rfl rfl ?_
        refine am_topL (y := lN (n * c)) (by rw [F4.1 53 (by omega), h1, nI_l (by omega), lN_mul]) ?_
        refine am_top2 (y := nI (s + 1)) (nI_1 s) ?_
        refine am_g0 rfl rfl ?_
        have hnc : n * c ≤ 16 ^ (s + 1) := by rw [p16s, Nat.mul_comm 16]; exact Nat.mul_le_mul hn hc
        have hnd : n * (16 - c) ≤ 16 ^ (s + 1) := by rw [p16s, Nat.mul_comm 16]; exact Nat.mul_le_mul hn (by omega)
        obtain ⟨⟨r5, w5⟩, ⟨e5, f5⟩, hD5⟩ := ih (s + 1) _ _ (n * c) w4 (by omega) ⟨hV.fr (fun a ha => F4.1 a (by omega)), by rw [F4.1 53 (by omega)]; exact h1, by rw [F4.1 53 (by omega)]; exact h2, g5, g6, qok_go true hV.good hPb hq⟩ hnc
        dsimp only at e5 f5
        subst e5
        refine ⟨(some (.long (lN (stormF V P c k (s + 1) (goS V P s true q).1 (n * c)))), w5), hD5, ?_⟩
        refine am_to (lv' := [(0, .ref 53), (1, .int (nI s)), (2, .long (lN n)), (4, .ref (55 + s)), (5, .ref (55 + (s + 1)))]) (st' := [.long (lN (stormF V P c k (s + 1) (goS V P s true q).1 (n * c)))]) (w' := w5) rfl rfl rfl ?_
        have F5 : stFr (s + 1) w w5 := (stFr.of F4 (Nat.le_refl _) (by omega)).tr f5
        have e5 : w5.1 (55 + s) = w.1 (55 + s) := F5.1 _ (by omega)
        iterate 4 refine am_g0 rfl rfl ?_
        refine am_ys (show (true && (true && am_isb shC (55 + (s + 1)) 10)) = true by rw [u1]; rfl) ?_
        obtain ⟨⟨r6, w6⟩, ⟨e6, f6, g7, g8⟩, hD6⟩ := d_become (d := d - 1) (T := 55 + (s + 1)) (U := 55 + s) (by omega) u1 t1 (by omega) (by rw [e5]; exact hP) (by rw [e5]; exact hQ)
        dsimp only at e6 f6 g7 g8
        subst e6
        refine ⟨(none, w6), hD6, ?_⟩
        refine am_to (lv' := [(0, .ref 53), (1, .int (nI s)), (2, .long (lN n)), (4, .ref (55 + s)), (5, .ref (55 + (s + 1))), (6, .long (lN (stormF V P c k (s + 1) (goS V P s true q).1 (n * c))))]) (st' := []) (w' := w6) rfl rfl rfl ?_
        iterate 4 refine am_g0 rfl rfl ?_
        refine am_ys (show (true && (true && am_isb shC (55 + (s + 1)) 10)) = true by rw [u1]; rfl) ?_
        have F6 : stFr (s + 1) w w6 := F5.tr (stFr.of f6 (Nat.le_refl _) (by omega))
        obtain ⟨⟨r7, w7⟩, ⟨e7, f7, g9, g10⟩, hD7⟩ := d_go_any (d := d - 1) (i := s + 1) (s := s) (r := false) (by omega) (by omega) (F6.V hV) g7 hPb g8 hq (by omega)
        dsimp only at e7 f7 g9 g10
        subst e7
        refine ⟨(none, w7), hD7, ?_⟩
        refine am_to (lv' := [(0, .ref 53), (1, .int (nI s)), (2, .long (lN n)), (4, .ref (55 + s)), (5, .ref (55 + (s + 1))), (6, .long (lN (stormF V P c k (s + 1) (goS V P s true q).1 (n * c))))]) (st' := []) (w' := w7) rfl rfl rfl ?_
        have F7 : stFr (s + 1) w w7 := F6.tr (stFr.of f7 (Nat.le_refl _) (by omega))
        iterate 12 refine am_g0 rfl rfl ?_
        refine am_topL (y := lN (n * (16 - c))) (by rw [F7.1 53 (by omega), h1, show (16 : Int32) = nI 16 from rfl, pk_sub hc, nI_l (by omega), lN_mul]) ?_
        refine am_top2 (y := nI (s + 1)) (nI_1 s) ?_
        refine am_g0 rfl rfl ?_
        obtain ⟨⟨r8, w8⟩, ⟨e8, f8⟩, hD8⟩ := ih (s + 1) _ _ (n * (16 - c)) w7 (by omega) ⟨F7.V hV, by rw [F7.1 53 (by omega)]; exact h1, by rw [F7.1 53 (by omega)]; exact h2, g9, g10, qok_go false hV.good hPb hq⟩ hnd
        dsimp only at e8 f8
        subst e8
        refine ⟨(some (.long (lN (stormF V P c k (s + 1) (goS V P s false q).1 (n * (16 - c))))), w8), hD8, ?_⟩
        refine am_to (lv' := [(0, .ref 53), (1, .int (nI s)), (2, .long (lN n)), (4, .ref (55 + s)), (5, .ref (55 + (s + 1))), (6, .long (lN (stormF V P c k (s + 1) (goS V P s true q).1 (n * c))))]) (st' := [.long (lN (stormF V P c k (s + 1) (goS V P s false q).1 (n * (16 - c)))), .long (lN (stormF V P c k (s + 1) (goS V P s true q).1 (n * c)))]) (w' := w8) rfl rfl rfl ?_
        iterate 2 refine am_g0 rfl rfl ?_
        refine ⟨rfl, ?_, (F7.tr f8).up⟩
        rw [stormF, if_neg h0, if_neg (fun z => z hz), lN_add]
    · refine am_ff (show ¬ (w.1 (55 + s) 8 : Int32) = 0 from by rw [hq8]; exact nne (b := 0) hz (by omega) (by omega)) ?_
      iterate 2 refine am_g0 rfl rfl ?_
      refine am_ys t1 ?_
      iterate 2 refine am_g0 rfl rfl ?_
      by_cases h1' : q.2.1 = 1
      · refine am_tt (show (w.1 (55 + s) 8 : Int32) = 1 from by rw [hq8, h1']; rfl) ?_
        iterate 6 refine am_g0 rfl rfl ?_
        refine am_top (y := nI k) (by rw [h2, pk_sub (by omega), show L - s = k by omega]) ?_
        iterate 2 refine am_g0 rfl rfl ?_
        refine am_topL (y := lN (n * 16 ^ k)) (sh4 n k (by omega)) ?_
        refine am_g0 rfl rfl ?_
        refine am_go rfl ?_
        refine ⟨rfl, ?_, fun _ _ => rfl, rfl⟩
        cases k with
        | zero => rw [stormF, if_neg h0, if_pos hz, if_pos h1', Nat.pow_zero, Nat.mul_one]
        | succ k => rw [stormF, if_neg h0, if_pos hz, if_pos h1']
      · refine am_ff (show ¬ (w.1 (55 + s) 8 : Int32) = 1 from by rw [hq8]; exact nne (b := 1) h1' (by omega) (by omega)) ?_
        refine am_go rfl ?_
        refine am_go rfl ?_
        refine ⟨rfl, ?_, fun _ _ => rfl, rfl⟩
        cases k with
        | zero => rw [stormF, if_neg h0, if_pos hz, if_neg h1']; rfl
        | succ k => rw [stormF, if_neg h0, if_pos hz, if_neg h1']; rfl
theorem d_coming {V : Wd} {P : Pr} {c L : Nat} (hL : L ≤ 10) (hc : c ≤ 16) (hPb : Pok P) : ∀ k d, k + 4 ≤ d → stP V P c L k d
  | 0, d, hd => d_coming_1 (by omega) hL hc hPb (fun k' z => absurd z (by omega))
  | k + 1, d, hd => d_coming_1 (by omega) hL hc hPb (fun k' z => by
    have e : k' = k := by omega
    rw [e]
    exact d_coming hL hc hPb k (d - 1) (by omega))
