/-! the model: storm -/
theorem wetB_nat {n s : Nat} (hn : n < 2 ^ 31) (hs : s < 32) : wetB (nI n) s = n.testBit s := by
  unfold wetB
  have hk : ∀ s, s < 32 → ((nI s &&& 31).toBitVec.smod 32).toNat = s := by decide +kernel
  rw [pk_shrN hn _ s (hk s hs), pk_andN (k := 1) (by have := Nat.div_le_self n (2 ^ s); omega) (by decide), Nat.testBit_eq_decide_div_mod_eq]
  rcases (show n / 2 ^ s % 2 = 0 ∨ n / 2 ^ s % 2 = 1 by omega) with e | e
  · rw [show n / 2 ^ s % 2 ^ 1 = 0 from e]; decide
  · rw [show n / 2 ^ s % 2 ^ 1 = 1 from e]; decide
/-- the weight of the first bits -/
def wtB (c b : Nat) : Nat → Nat
  | 0 => 1
  | i + 1 => wtB c b i * (if b.testBit i then c else 16 - c)
/-- rain by bits -/
def wSt (b : Nat) : Nat → Bool := fun s => decide (s < 10) && b.testBit s
def Gst (V : Wd) (P : Pr) (c L b : Nat) : Nat := if fin V P (wSt b) = 1 then wtB c b L else 0
def sumT (G : Nat → Nat) : Nat → Nat → Nat → Nat
  | 0, _, p => G p
  | k + 1, s, p => sumT G k (s + 1) (p + 2 ^ s) + sumT G k (s + 1) p
theorem sumN_two {f : Nat → Nat} : ∀ n, sumN f (2 * n) = sumN (fun i => f (2 * i + 1)) n + sumN (fun i => f (2 * i)) n
  | 0 => rfl
  | n + 1 => by
    have ih := sumN_two (f := f) n
    rw [show 2 * (n + 1) = 2 * n + 1 + 1 by omega, sumN, sumN, sumN, sumN, ih]
    omega
theorem sumT_eq {G : Nat → Nat} : ∀ k s p, sumT G k s p = sumN (fun b => G (p + 2 ^ s * b)) (2 ^ k)
  | 0, s, p => by
    rw [sumT, show 2 ^ 0 = 0 + 1 from rfl, sumN, sumN]
    simp
  | k + 1, s, p => by
    rw [sumT, sumT_eq k, sumT_eq k, show 2 ^ (k + 1) = 2 * 2 ^ k by rw [Nat.pow_succ, Nat.mul_comm], sumN_two]
    have e : ∀ b, 2 ^ (s + 1) * b = 2 ^ s * (2 * b) := fun b => by rw [Nat.pow_succ, Nat.mul_assoc]
    have e1 : ∀ b, p + 2 ^ s + 2 ^ (s + 1) * b = p + 2 ^ s * (2 * b + 1) := fun b => by rw [e, Nat.mul_add, Nat.mul_one]; omega
    have e2 : ∀ b, p + 2 ^ (s + 1) * b = p + 2 ^ s * (2 * b) := fun b => by rw [e]
    rw [sumN_congr (fun b _ => congrArg G (e1 b)), sumN_congr (g := fun b => G (p + 2 ^ s * (2 * b))) (fun b _ => congrArg G (e2 b))]
theorem tb_lt {p s i : Nat} (h : i < s) : (p + 2 ^ s).testBit i = p.testBit i := by rw [Nat.add_comm]; exact Nat.testBit_two_pow_add_gt h p
theorem tb_at {p s : Nat} (h : p < 2 ^ s) : (p + 2 ^ s).testBit s = true := by rw [Nat.add_comm, Nat.testBit_two_pow_add_eq, Nat.testBit_lt_two_pow h]; rfl
theorem tb_0 {p s i : Nat} (h : p < 2 ^ s) (hi : s ≤ i) : p.testBit i = false := Nat.testBit_lt_two_pow (Nat.lt_of_lt_of_le h (Nat.pow_le_pow_right (by omega) hi))
theorem wtB_congr {c b b' : Nat} : ∀ {i : Nat}, (∀ j, j < i → b.testBit j = b'.testBit j) → wtB c b i = wtB c b' i
  | 0, _ => rfl
  | i + 1, h => by rw [wtB, wtB, wtB_congr (fun j hj => h j (by omega)), h i (by omega)]
theorem wtB_up {c p s : Nat} (h : p < 2 ^ s) : wtB c (p + 2 ^ s) (s + 1) = wtB c p s * c := by rw [wtB, tb_at h, if_pos rfl, wtB_congr (fun j hj => tb_lt hj)]
theorem wtB_dn {c p s : Nat} (h : p < 2 ^ s) : wtB c p (s + 1) = wtB c p s * (16 - c) := by rw [wtB, tb_0 h (Nat.le_refl s), if_neg (by decide)]
theorem lf_up {V : Wd} {P : Pr} {p s : Nat} (h : p < 2 ^ s) (hs : s < 10) : lifeQ V P (wSt (p + 2 ^ s)) (s + 1) = (goS V P s true (lifeQ V P (wSt p) s)).1 := by
  rw [lifeQ, life_congr (w2 := wSt p) (fun i hi => by unfold wSt; rw [tb_lt hi])]
  unfold wSt
  rw [tb_at h, decide_eq_true hs]
  rfl
theorem lf_dn {V : Wd} {P : Pr} {p s : Nat} (h : p < 2 ^ s) : lifeQ V P (wSt p) (s + 1) = (goS V P s false (lifeQ V P (wSt p) s)).1 := by
  rw [lifeQ]
  have e : wSt p s = false := by unfold wSt; rw [tb_0 h (Nat.le_refl s), Bool.and_false]
  rw [e]
theorem life_end {V : Wd} {P : Pr} {wet : Nat → Bool} : ∀ {j s : Nat}, (∀ i, s ≤ i → wet i = false) → lifeQ V P wet (s + j) = endF V P j s (lifeQ V P wet s)
  | 0, s, _ => rfl
  | j + 1, s, h => by
    have ih := life_end (V := V) (P := P) (wet := wet) (j := j) (s := s + 1) (fun i hi => h i (by omega))
    rw [show s + (j + 1) = s + 1 + j by omega, ih, endF, lifeQ, h s (Nat.le_refl s)]
theorem fin_end {V : Wd} {P : Pr} {p s : Nat} (h : p < 2 ^ s) (hs : s ≤ 10) : fin V P (wSt p) = (endF V P (30 - s) s (lifeQ V P (wSt p) s)).2.1 := by
  unfold fin
  rw [← life_end (fun i hi => by unfold wSt; rw [tb_0 h hi, Bool.and_false]), show s + (30 - s) = 30 by omega]
theorem p2s {p s : Nat} (h : p < 2 ^ s) : p + 2 ^ s < 2 ^ (s + 1) ∧ p < 2 ^ (s + 1) := by rw [Nat.pow_succ]; omega
theorem sumT_0 {V : Wd} {P : Pr} {c L : Nat} : ∀ {k s p : Nat}, s + k = L → p < 2 ^ s → wtB c p s = 0 → sumT (Gst V P c L) k s p = 0
  | 0, s, p, hs, hp, h => by
    rw [sumT]
    unfold Gst
    rw [show L = s by omega, h]
    split <;> rfl
  | k + 1, s, p, hs, hp, h => by
    rw [sumT, sumT_0 (by omega) (p2s hp).1 (by rw [wtB_up hp, h, Nat.zero_mul]), sumT_0 (by omega) (p2s hp).2 (by rw [wtB_dn hp, h, Nat.zero_mul])]
theorem sumT_q {V : Wd} {P : Pr} {c L : Nat} (hc : c ≤ 16) (hL : L ≤ 10) : ∀ {k s p : Nat} {q : Qs}, s + k = L → p < 2 ^ s → q = lifeQ V P (wSt p) s → q.2.1 ≠ 0 → sumT (Gst V P c L) k s p = if q.2.1 = 1 then wtB c p s * 16 ^ k else 0
  | 0, s, p, q, hs, hp, hq, h => by
    rw [sumT]
    unfold Gst
    rw [fin_end hp (by omega), ← hq, endF_stay h, show L = s by omega, Nat.pow_zero, Nat.mul_one]
  | k + 1, s, p, q, hs, hp, hq, h => by
    have e1 : q = lifeQ V P (wSt (p + 2 ^ s)) (s + 1) := by rw [lf_up hp (by omega), ← hq, goS_stay h]
    have e2 : q = lifeQ V P (wSt p) (s + 1) := by rw [lf_dn hp, ← hq, goS_stay h]
    rw [sumT, sumT_q hc hL (by omega) (p2s hp).1 e1 h, sumT_q hc hL (by omega) (p2s hp).2 e2 h, wtB_up hp, wtB_dn hp]
    split
    · rw [p16s, ← Nat.add_mul, ← Nat.mul_add, show c + (16 - c) = 16 by omega, Nat.mul_assoc]
    · rfl
theorem storm_T {V : Wd} {P : Pr} {c L : Nat} (hc : c ≤ 16) (hL : L ≤ 10) : ∀ {k s p : Nat} {q : Qs} {n : Nat}, s + k = L → p < 2 ^ s → q = lifeQ V P (wSt p) s → n = wtB c p s → stormF V P c k s q n = sumT (Gst V P c L) k s p
  | 0, s, p, q, n, hs, hp, hq, hn => by
    rw [sumT, stormF]
    unfold Gst
    rw [fin_end hp (by omega), ← hq, show L = s by omega, ← hn]
    by_cases z : n = 0
    · rw [if_pos z, z]; split <;> rfl
    · rw [if_neg z]
      by_cases z2 : q.2.1 ≠ 0
      · rw [if_pos z2, endF_stay z2]
      · rw [if_neg z2]
  | k + 1, s, p, q, n, hs, hp, hq, hn => by
    rw [stormF]
    by_cases z : n = 0
    · rw [if_pos z, sumT_0 (by omega) hp (by rw [← hn]; exact z)]
    · rw [if_neg z]
      by_cases z2 : q.2.1 ≠ 0
      · rw [if_pos z2, sumT_q hc hL (by omega) hp hq z2, ← hn]
      · rw [if_neg z2, sumT]
        rw [storm_T hc hL (by omega) (p2s hp).1 (by rw [lf_up hp (by omega), ← hq]) (by rw [wtB_up hp, ← hn]), storm_T hc hL (by omega) (p2s hp).2 (by rw [lf_dn hp, ← hq]) (by rw [wtB_dn hp, ← hn])]
theorem storm_sum {S : Sp} {p c l : Nat} (hc : c ≤ 16) (hl : l ≤ 9) : stormS S p c l = sumN (Gst S.V (prS S.pf p) c (l + 1)) (2 ^ (l + 1)) := by
  unfold stormS
  rw [storm_T (V := S.V) (P := prS S.pf p) (L := l + 1) (k := l + 1) (s := 0) (p := 0) (q := beginS S.V (prS S.pf p)) (n := 1) hc (by omega) (by omega) (by decide) rfl rfl, sumT_eq]
  exact sumN_congr (fun b _ => by rw [Nat.pow_zero, Nat.one_mul, Nat.zero_add])
/-! its parts -/
theorem m_part {d a b k : Nat} {w : am_M} (hd : 1 ≤ d) (ha : a < 2 ^ 63) (hb : b < 2 ^ 63) (hb0 : 0 < b) (hk : k < 2) : am_D shM d mi_X12_part [.long (lN a), .long (lN b), .int (nI k)] w (some (.long (lN ((if k = 0 then a else b) / Nat.gcd a b))), w) := by
  have hg0 : 0 < Nat.gcd a b := Nat.gcd_pos_of_pos_right a hb0
  generalize hg : Nat.gcd a b = g at *
  refine am_def (by omega) rfl rfl ?_
  iterate 4 refine am_g0 rfl rfl ?_
  have key : ∀ n A B : Nat, B ≤ n → A < 2 ^ 63 → B < 2 ^ 63 → Nat.gcd A B = g → am_R shM mi_X12_part (am_D shM (d - 1)) (fun r => r = (some (.long (lN ((if k = 0 then a else b) / g))), w)) 6 [(0, .long (lN a)), (2, .long (lN b)), (4, .int (nI k)), (5, .long (lN A)), (7, .long (lN B))] [] w := by
    intro n
    induction n with
    | zero =>
      intro A B hn hA hB hG
      have hB0 : B = 0 := by omega
      have hAg : A = g := by rw [hB0, Nat.gcd_zero_right] at hG; exact hG
      refine am_go rfl ?_
      iterate 3 refine am_g0 rfl rfl ?_
      refine am_tt (show (lg_cmp (lN B) 0 : Int32) = 0 from (lc0 hB).mpr hB0) ?_
      refine am_go rfl ?_
      refine am_g0 rfl rfl ?_
      by_cases k0 : k = 0
      · refine am_tt (show (nI k : Int32) = 0 from by rw [k0]; rfl) ?_
        iterate 2 refine am_g0 rfl rfl ?_
        refine am_go rfl ?_
        refine am_g0 rfl rfl ?_
        refine am_ff (fun z => absurd ((pk_lEQ (b := 0) hA (by omega)).mp z) (by omega)) ?_
        refine am_topL (y := lN (a / A)) (pk_lDiv ha (by omega) hA) ?_
        refine am_g0 rfl rfl ?_
        exact ⟨rfl, by rw [if_pos k0, hAg]⟩
      · refine am_ff (show ¬ (nI k : Int32) = 0 from nne (b := 0) k0 (by omega) (by omega)) ?_
        refine am_go rfl ?_
        refine am_go rfl ?_
        refine am_g0 rfl rfl ?_
        refine am_ff (fun z => absurd ((pk_lEQ (b := 0) hA (by omega)).mp z) (by omega)) ?_
        refine am_topL (y := lN (b / A)) (pk_lDiv hb (by omega) hA) ?_
        refine am_g0 rfl rfl ?_
        exact ⟨rfl, by rw [if_neg k0, hAg]⟩
    | succ n ih =>
      intro A B hn hA hB hG
      by_cases hB0 : B = 0
      · exact ih A B (by omega) hA hB hG
      · have hlt : A % B < B := Nat.mod_lt _ (by omega)
        refine am_go rfl ?_
        iterate 3 refine am_g0 rfl rfl ?_
        refine am_ff (show ¬ (lg_cmp (lN B) 0 : Int32) = 0 from fun z => hB0 ((lc0 hB).mp z)) ?_
        iterate 3 refine am_g0 rfl rfl ?_
        refine am_ff (fun z => absurd ((pk_lEQ (b := 0) hB (by omega)).mp z) hB0) ?_
        refine am_topL (y := lN (A % B)) (pk_lRem hA (by omega) hB) ?_
        iterate 6 refine am_g0 rfl rfl ?_
        exact am_kl (ih B (A % B) (by omega) hB (by omega) (by rw [Nat.gcd_comm, ← Nat.gcd_rec, Nat.gcd_comm]; exact hG)) rfl
  exact am_kl (key b a b (Nat.le_refl _) ha hb hg) rfl
theorem two_L : ∀ l, l ≤ 9 → (2 : Int32) <<< (nI l &&& 31) = nI (2 ^ (l + 1)) ∧ 2 ^ (l + 1) ≤ 1024 := by
  have : ∀ l, l < 10 → (2 : Int32) <<< (nI l &&& 31) = nI (2 ^ (l + 1)) ∧ 2 ^ (l + 1) ≤ 1024 := by decide +kernel
  exact fun l hl => this l (by omega)
set_option maxHeartbeats 1000000 in
theorem m_stormOf {d k c l j : Nat} {w : am_M} {S : Sp} (hd : 5 ≤ d) (h : RM w S) (hR : mRd w S) (g : SG S) (hk : k < S.q) (hc : c ≤ 16) (hl : l ≤ 9) (hj : j < 2) : ∃ o : am_O, (o.1 = some (.long (lN (stormR S k c l j))) ∧ am_fx [13, 14, 15, 16, 17, 18, 19, 20] [28, 29, 30] w o.2) ∧ am_D shM d mi_X12_stormOf [.ref 0, .int (nI c), .int (nI l), .int (nI k), .int (nI j)] w o := by
  have hq := g.2.2.1
  obtain ⟨A, hA⟩ : ∃ A, A = Gst S.V (prS S.pf k) c (l + 1) := ⟨_, rfl⟩
  have hAn : ∀ n, A n = if fin S.V (prS S.pf k) (wSt n) = 1 then wtB c n (l + 1) else 0 := fun n => by rw [hA]; rfl
  have hsum : stormS S k c l = sumN A (2 ^ (l + 1)) := by rw [hA]; exact storm_sum hc hl
  have hle := stormS_le (S := S) (p := k) (l := l) hc
  have h16 := p16 (s := l + 1) (by omega)
  have hR' : stormR S k c l j = (if j = 0 then sumN A (2 ^ (l + 1)) else 16 ^ (l + 1)) / Nat.gcd (sumN A (2 ^ (l + 1))) (16 ^ (l + 1)) := by
    unfold stormR
    rw [hsum]
    by_cases z : j = 0
    · rw [if_pos z, if_pos z]
    · rw [if_neg z, if_neg z]
  rw [hR']
  rw [hsum] at hle
  obtain ⟨h2L, hN⟩ := two_L l hl
  have hsh : (1 : Int64) <<< (((4 : Int32) * (nI l + 1)).toInt64 &&& 63) = lN (16 ^ (l + 1)) := by
    rw [nI_1]
    have := sh4 1 (l + 1) (by omega)
    rw [Nat.one_mul] at this
    exact this
  generalize 2 ^ (l + 1) = N at *
  generalize h16e : 16 ^ (l + 1) = E at *
  have hE0 : 0 < E := by rw [← h16e]; exact Nat.pow_pos (by omega)
  refine am_dex (by omega) rfl rfl ?_
  iterate 4 refine am_g0 rfl rfl ?_
  have key : ∀ i n : Nat, n + i = N → ∀ u : am_M, am_fx [13, 14, 15, 16, 17, 18, 19, 20] [19, 28, 29, 30] w u → ∀ T, sumN A n = T → am_R shM mi_X12_stormOf (am_D shM (d - 1)) (fun o => o.1 = some (.long (lN ((if j = 0 then sumN A N else E) / Nat.gcd (sumN A N) E))) ∧ am_fx [13, 14, 15, 16, 17, 18, 19, 20] [28, 29, 30] w o.2) 6 [(0, .ref 0), (1, .int (nI c)), (2, .int (nI l)), (3, .int (nI k)), (4, .int (nI j)), (5, .long (lN T)), (7, .int (nI n))] [] u := by
    intro i
    induction i with
    | zero =>
      intro n hn u fu T hT
      rw [show n = N by omega] at hT
      have hTE : T ≤ E := by rw [← hT]; exact hle
      refine am_go rfl ?_
      iterate 4 refine am_g0 rfl rfl ?_
      refine am_tt (show ((2 : Int32) <<< ((nI l) &&& 31) : Int32) ≤ (nI n) from by rw [h2L]; exact nI_le (by omega) (by omega)) ?_
      refine am_go rfl ?_
      iterate 10 refine am_g0 rfl rfl ?_
      refine am_topL (y := lN E) (hsh) ?_
      iterate 2 refine am_g0 rfl rfl ?_
      refine ⟨(some (.long (lN ((if j = 0 then sumN A N else E) / Nat.gcd (sumN A N) E))), am_pi u 0 19 (-1)), by rw [hT]; exact m_part (by omega) (by omega) (by omega) hE0 hj, ?_⟩
      refine am_to (lv' := [(0, .ref 0), (2, .int (nI l)), (4, .int (nI j)), (5, .long (lN T))]) (st' := [.long (lN ((if j = 0 then sumN A N else E) / Nat.gcd (sumN A N) E))]) (w' := am_pi u 0 19 (-1)) rfl rfl rfl ?_
      refine am_g0 rfl rfl ?_
      exact ⟨rfl, rfl, fu.back h.2.2.2.2.2.2⟩
    | succ i ih =>
      intro n hn u fu T hT
      refine am_go rfl ?_
      iterate 4 refine am_g0 rfl rfl ?_
      refine am_ff (show ¬ ((2 : Int32) <<< ((nI l) &&& 31) : Int32) ≤ (nI n) from by rw [h2L]; exact nI_ge (by omega) (by omega)) ?_
      iterate 4 refine am_g0 rfl rfl ?_
      generalize hv : am_pi u 0 19 (nI n) = v
      have fv : am_fx [13, 14, 15, 16, 17, 18, 19, 20] [19, 28, 29, 30] w v := by rw [← hv]; exact fu.p0 (by decide)
      have hRv := hR.fl fv (by decide) (by decide)
      have hv19 : v.1 0 19 = nI n := by rw [← hv, am_pi_at]
      have hWv : mW v (wSt n) := Or.inr ⟨by rw [hv19]; exact nI_m1 (by omega), fun s hs => by rw [hv19, wetB_nat (by omega) (by omega)]; rfl⟩
      refine am_to (lv' := [(0, .ref 0), (1, .int (nI c)), (2, .int (nI l)), (3, .int (nI k)), (4, .int (nI j)), (5, .long (lN T)), (7, .int (nI n))]) (st' := [.ref 0]) (w' := v) rfl rfl rfl ?_
      refine am_g0 rfl rfl ?_
      obtain ⟨⟨r1, w1⟩, ⟨e1, f1, g1⟩, hD1⟩ := m_lives (d := d - 1) (by omega) hRv.1 hWv hRv.2.1 hq (hRv.P g)
      dsimp only at e1 f1 g1
      subst e1
      refine ⟨(none, w1), hD1, ?_⟩
      refine am_to (lv' := [(0, .ref 0), (1, .int (nI c)), (2, .int (nI l)), (3, .int (nI k)), (4, .int (nI j)), (5, .long (lN T)), (7, .int (nI n))]) (st' := []) (w' := w1) rfl rfl rfl ?_
      have f1' : am_fx [13, 14, 15, 16, 17, 18, 19, 20] [19, 28, 29, 30] w w1 := fv.tr (f1.mono (by decide) (by decide))
      have hst := (g1.st g.2.1.good g.2.2.2) k hk
      have hAn' := hAn n
      generalize fin S.V (prS S.pf k) (wSt n) = F at hst hAn'
      iterate 3 refine am_g0 rfl rfl ?_
      refine am_glN (n := 8) (k := k) rfl rfl (by omega) (by decide) ?_
      refine am_top (y := nI F) (hst.1) ?_
      iterate 2 refine am_g0 rfl rfl ?_
      by_cases e : F = 1
      · rw [if_pos e] at hAn'
        refine am_tt (show (nI F : Int32) = 1 from by rw [e]; rfl) ?_
        iterate 4 refine am_g0 rfl rfl ?_
        have key2 : ∀ r t : Nat, t + r = l + 1 → ∀ X, wtB c n t = X → am_R shM mi_X12_stormOf (am_D shM (d - 1)) (fun o => o.1 = some (.long (lN ((if j = 0 then sumN A N else E) / Nat.gcd (sumN A N) E))) ∧ am_fx [13, 14, 15, 16, 17, 18, 19, 20] [28, 29, 30] w o.2) 40 [(0, .ref 0), (1, .int (nI c)), (2, .int (nI l)), (3, .int (nI k)), (4, .int (nI j)), (5, .long (lN T)), (7, .int (nI n)), (8, .long (lN X)), (10, .int (nI t))] [] w1 := by
          intro r
          induction r with
          | zero =>
            intro t ht X hX
            have this := ih (n + 1) (by omega) w1 f1' (T + X) (by rw [sumN, hT, hAn', ← hX, show t = l + 1 by omega])
            rw [← nI_1 n, ← lN_add] at this
            refine am_go rfl ?_
            iterate 2 refine am_g0 rfl rfl ?_
            refine am_tt (show (nI l : Int32) < (nI t) from nI_lt (by omega) (by omega)) ?_
            refine am_go rfl ?_
            iterate 3 refine am_g0 rfl rfl ?_
            refine am_go rfl ?_
            refine am_g0 rfl rfl ?_
            exact am_kl this rfl
          | succ r ih2 =>
            intro t ht X hX
            refine am_go rfl ?_
            iterate 2 refine am_g0 rfl rfl ?_
            refine am_ff (show ¬ (nI l : Int32) < (nI t) from nI_nlt (by omega) (by omega)) ?_
            iterate 4 refine am_g0 rfl rfl ?_
            refine ⟨(some (.int (b01 (n.testBit t))), w1), m_isIn (by omega) (wetB_nat (by omega) (by omega)), ?_⟩
            refine am_to (lv' := [(0, .ref 0), (1, .int (nI c)), (2, .int (nI l)), (3, .int (nI k)), (4, .int (nI j)), (5, .long (lN T)), (7, .int (nI n)), (8, .long (lN X)), (10, .int (nI t))]) (st' := [.int (b01 (n.testBit t)), .long (lN X)]) (w' := w1) rfl rfl rfl ?_
            refine am_g0 rfl rfl ?_
            by_cases z : n.testBit t = true
            · have this := ih2 (t + 1) (by omega) (X * c) (by rw [wtB, hX, if_pos z])
              rw [← nI_1 t, ← lN_mul] at this
              refine am_ff (show ¬ (b01 (n.testBit t) : Int32) = 0 from b01_t z) ?_
              iterate 2 refine am_g0 rfl rfl ?_
              refine am_topL (y := lN c) (nI_l (by omega)) ?_
              refine am_g0 rfl rfl ?_
              refine am_go rfl ?_
              iterate 3 refine am_g0 rfl rfl ?_
              exact am_kl this rfl
            · have this := ih2 (t + 1) (by omega) (X * (16 - c)) (by rw [wtB, hX, if_neg z])
              rw [← nI_1 t, ← lN_mul] at this
              refine am_tt (show (b01 (n.testBit t) : Int32) = 0 from b01_f z) ?_
              refine am_go rfl ?_
              iterate 3 refine am_g0 rfl rfl ?_
              refine am_topL (y := lN (16 - c)) (by rw [show (16 : Int32) = nI 16 from rfl, pk_sub hc, nI_l (by omega)]) ?_
              refine am_go rfl ?_
              iterate 3 refine am_g0 rfl rfl ?_
              exact am_kl this rfl
        exact am_kl (key2 (l + 1) 0 (by omega) 1 rfl) rfl
      · rw [if_neg e] at hAn'
        have this := ih (n + 1) (by omega) w1 f1' T (by rw [sumN, hT, hAn', Nat.add_zero])
        rw [← nI_1 n] at this
        refine am_ff (show ¬ (nI F : Int32) = 1 from nne (b := 1) e (by have := hst.2; omega) (by omega)) ?_
        refine am_go rfl ?_
        refine am_g0 rfl rfl ?_
        exact am_kl this rfl
  exact am_kl (key N 0 (by omega) w am_fx.rf 0 rfl) rfl
theorem m_no {d : Nat} {w : am_M} (hd : 1 ≤ d) : am_D shM d mi_X12_no [.int (-2)] w (some (.long (-9223372036854775806)), w) := by
  refine am_def (by omega) rfl rfl ?_
  iterate 5 refine am_g0 rfl rfl ?_
  exact ⟨rfl, rfl⟩
theorem m_storm {d : Nat} {x y z t : Int32} {w : am_M} {S : Sp} (hd : 8 ≤ d) (h : RM w S) (g : SG S) : ∃ o : am_O, (o.1 = some (.long (stormQ S x y z t)) ∧ RM o.2 S) ∧ am_D shM d mi_X12_storm [.ref 0, .int x, .int y, .int z, .int t] w o := by
  have hq := g.2.2.1
  obtain ⟨⟨r1, w1⟩, ⟨e1, f1⟩, hD1⟩ := m_find2 (d := d - 1) (by omega) h g
  dsimp only at e1 f1
  subst e1
  have hp14 : w1.1 0 14 = nI S.q := f1.2.1.2.1
  rcases dI_or x 17 (by decide) with hx | ⟨c, hc, rfl, hx⟩
  · refine am_dex (by omega) rfl rfl ?_
    iterate 2 refine am_g0 rfl rfl ?_
    refine ⟨(none, w1), hD1, ?_⟩
    refine am_to (lv' := [(0, .ref 0), (1, .int x), (2, .int y), (3, .int z), (4, .int t)]) (st' := []) (w' := w1) rfl rfl rfl ?_
    iterate 5 refine am_g0 rfl rfl ?_
    refine ⟨(some (.int 0), w1), m_inn (n := 17) (by omega) (by omega) (by decide) hx, ?_⟩
    refine am_to (lv' := [(0, .ref 0), (1, .int x), (2, .int y), (3, .int z), (4, .int t)]) (st' := [.int 0]) (w' := w1) rfl rfl rfl ?_
    refine am_g0 rfl rfl ?_
    refine am_go rfl ?_
    refine am_g0 rfl rfl ?_
    refine ⟨(some (.long (-9223372036854775806)), w1), m_no (by omega), ?_⟩
    refine am_to (lv' := []) (st' := [.long (-9223372036854775806)]) (w' := w1) rfl rfl rfl ?_
    refine am_go rfl ?_
    exact ⟨rfl, by unfold stormQ; rw [hx], f1.1⟩
  · rcases dI_or y 10 (by decide) with hy | ⟨l, hl, rfl, hy⟩
    · refine am_dex (by omega) rfl rfl ?_
      iterate 2 refine am_g0 rfl rfl ?_
      refine ⟨(none, w1), hD1, ?_⟩
      refine am_to (lv' := [(0, .ref 0), (1, .int (nI c)), (2, .int y), (3, .int z), (4, .int t)]) (st' := []) (w' := w1) rfl rfl rfl ?_
      iterate 5 refine am_g0 rfl rfl ?_
      refine ⟨(some (.int 1), w1), m_ins (n := 17) (by omega) (by omega) (by decide) hc, ?_⟩
      refine am_to (lv' := [(0, .ref 0), (1, .int (nI c)), (2, .int y), (3, .int z), (4, .int t)]) (st' := [.int 1]) (w' := w1) rfl rfl rfl ?_
      iterate 6 refine am_g0 rfl rfl ?_
      refine ⟨(some (.int 0), w1), m_inn (n := 10) (by omega) (by omega) (by decide) hy, ?_⟩
      refine am_to (lv' := [(0, .ref 0), (1, .int (nI c)), (2, .int y), (3, .int z), (4, .int t)]) (st' := [.int 0]) (w' := w1) rfl rfl rfl ?_
      refine am_g0 rfl rfl ?_
      refine am_go rfl ?_
      refine am_g0 rfl rfl ?_
      refine ⟨(some (.long (-9223372036854775806)), w1), m_no (by omega), ?_⟩
      refine am_to (lv' := []) (st' := [.long (-9223372036854775806)]) (w' := w1) rfl rfl rfl ?_
      refine am_go rfl ?_
      exact ⟨rfl, by unfold stormQ; rw [hx, hy], f1.1⟩
    · rcases dI_or z S.q (by omega) with hz | ⟨k, hk, rfl, hz⟩
      · refine am_dex (by omega) rfl rfl ?_
        iterate 2 refine am_g0 rfl rfl ?_
        refine ⟨(none, w1), hD1, ?_⟩
        refine am_to (lv' := [(0, .ref 0), (1, .int (nI c)), (2, .int (nI l)), (3, .int z), (4, .int t)]) (st' := []) (w' := w1) rfl rfl rfl ?_
        iterate 5 refine am_g0 rfl rfl ?_
        refine ⟨(some (.int 1), w1), m_ins (n := 17) (by omega) (by omega) (by decide) hc, ?_⟩
        refine am_to (lv' := [(0, .ref 0), (1, .int (nI c)), (2, .int (nI l)), (3, .int z), (4, .int t)]) (st' := [.int 1]) (w' := w1) rfl rfl rfl ?_
        iterate 6 refine am_g0 rfl rfl ?_
        refine ⟨(some (.int 1), w1), m_ins (n := 10) (by omega) (by omega) (by decide) hl, ?_⟩
        refine am_to (lv' := [(0, .ref 0), (1, .int (nI c)), (2, .int (nI l)), (3, .int z), (4, .int t)]) (st' := [.int 1]) (w' := w1) rfl rfl rfl ?_
        iterate 4 refine am_g0 rfl rfl ?_
        refine ⟨(some (.int 0), w1), m_isPerson_n (by omega) hq hp14 hz, ?_⟩
        refine am_to (lv' := [(0, .ref 0), (1, .int (nI c)), (2, .int (nI l)), (3, .int z), (4, .int t)]) (st' := [.int 0]) (w' := w1) rfl rfl rfl ?_
        refine am_g0 rfl rfl ?_
        refine am_go rfl ?_
        refine am_g0 rfl rfl ?_
        refine ⟨(some (.long (-9223372036854775806)), w1), m_no (by omega), ?_⟩
        refine am_to (lv' := []) (st' := [.long (-9223372036854775806)]) (w' := w1) rfl rfl rfl ?_
        refine am_go rfl ?_
        exact ⟨rfl, by unfold stormQ; rw [hx, hy, hz], f1.1⟩
      · rcases dI_or t 2 (by decide) with ht | ⟨j, hj, rfl, ht⟩
        · refine am_dex (by omega) rfl rfl ?_
          iterate 2 refine am_g0 rfl rfl ?_
          refine ⟨(none, w1), hD1, ?_⟩
          refine am_to (lv' := [(0, .ref 0), (1, .int (nI c)), (2, .int (nI l)), (3, .int (nI k)), (4, .int t)]) (st' := []) (w' := w1) rfl rfl rfl ?_
          iterate 5 refine am_g0 rfl rfl ?_
          refine ⟨(some (.int 1), w1), m_ins (n := 17) (by omega) (by omega) (by decide) hc, ?_⟩
          refine am_to (lv' := [(0, .ref 0), (1, .int (nI c)), (2, .int (nI l)), (3, .int (nI k)), (4, .int t)]) (st' := [.int 1]) (w' := w1) rfl rfl rfl ?_
          iterate 6 refine am_g0 rfl rfl ?_
          refine ⟨(some (.int 1), w1), m_ins (n := 10) (by omega) (by omega) (by decide) hl, ?_⟩
          refine am_to (lv' := [(0, .ref 0), (1, .int (nI c)), (2, .int (nI l)), (3, .int (nI k)), (4, .int t)]) (st' := [.int 1]) (w' := w1) rfl rfl rfl ?_
          iterate 4 refine am_g0 rfl rfl ?_
          refine ⟨(some (.int 1), w1), m_isPerson_s (by omega) hq hp14 hk, ?_⟩
          refine am_to (lv' := [(0, .ref 0), (1, .int (nI c)), (2, .int (nI l)), (3, .int (nI k)), (4, .int t)]) (st' := [.int 1]) (w' := w1) rfl rfl rfl ?_
          iterate 3 refine am_g0 rfl rfl ?_
          refine ⟨(some (.int 0), w1), m_isTwo_n (by omega) ht, ?_⟩
          refine am_to (lv' := [(0, .ref 0), (1, .int (nI c)), (2, .int (nI l)), (3, .int (nI k)), (4, .int t)]) (st' := [.int 0]) (w' := w1) rfl rfl rfl ?_
          refine am_g0 rfl rfl ?_
          refine am_go rfl ?_
          refine am_g0 rfl rfl ?_
          refine ⟨(some (.long (-9223372036854775806)), w1), m_no (by omega), ?_⟩
          refine am_to (lv' := []) (st' := [.long (-9223372036854775806)]) (w' := w1) rfl rfl rfl ?_
          refine am_go rfl ?_
          exact ⟨rfl, by unfold stormQ; rw [hx, hy, hz, ht], f1.1⟩
        · refine am_dex (by omega) rfl rfl ?_
          iterate 2 refine am_g0 rfl rfl ?_
          refine ⟨(none, w1), hD1, ?_⟩
          refine am_to (lv' := [(0, .ref 0), (1, .int (nI c)), (2, .int (nI l)), (3, .int (nI k)), (4, .int (nI j))]) (st' := []) (w' := w1) rfl rfl rfl ?_
          iterate 5 refine am_g0 rfl rfl ?_
          refine ⟨(some (.int 1), w1), m_ins (n := 17) (by omega) (by omega) (by decide) hc, ?_⟩
          refine am_to (lv' := [(0, .ref 0), (1, .int (nI c)), (2, .int (nI l)), (3, .int (nI k)), (4, .int (nI j))]) (st' := [.int 1]) (w' := w1) rfl rfl rfl ?_
          iterate 6 refine am_g0 rfl rfl ?_
          refine ⟨(some (.int 1), w1), m_ins (n := 10) (by omega) (by omega) (by decide) hl, ?_⟩
          refine am_to (lv' := [(0, .ref 0), (1, .int (nI c)), (2, .int (nI l)), (3, .int (nI k)), (4, .int (nI j))]) (st' := [.int 1]) (w' := w1) rfl rfl rfl ?_
          iterate 4 refine am_g0 rfl rfl ?_
          refine ⟨(some (.int 1), w1), m_isPerson_s (by omega) hq hp14 hk, ?_⟩
          refine am_to (lv' := [(0, .ref 0), (1, .int (nI c)), (2, .int (nI l)), (3, .int (nI k)), (4, .int (nI j))]) (st' := [.int 1]) (w' := w1) rfl rfl rfl ?_
          iterate 3 refine am_g0 rfl rfl ?_
          refine ⟨(some (.int 1), w1), m_isTwo_s (by omega) hj, ?_⟩
          refine am_to (lv' := [(0, .ref 0), (1, .int (nI c)), (2, .int (nI l)), (3, .int (nI k)), (4, .int (nI j))]) (st' := [.int 1]) (w' := w1) rfl rfl rfl ?_
          iterate 7 refine am_g0 rfl rfl ?_
          obtain ⟨⟨r2, w2⟩, ⟨e2, f2⟩, hD2⟩ := m_stormOf (d := d - 1) (c := c) (l := l) (by omega) f1.1 f1.2.1 g hk (by omega) (by omega) hj
          dsimp only at e2 f2
          subst e2
          refine ⟨(some (.long (lN (stormR S k c l j))), w2), hD2, ?_⟩
          refine am_to (lv' := [(0, .ref 0), (1, .int (nI c)), (2, .int (nI l)), (3, .int (nI k)), (4, .int (nI j))]) (st' := [.long (lN (stormR S k c l j))]) (w' := w2) rfl rfl rfl ?_
          refine am_g0 rfl rfl ?_
          refine am_go rfl ?_
          exact ⟨rfl, by unfold stormQ; rw [hx, hy, hz, ht], f1.1.fr f2 (by decide) (by decide)⟩
