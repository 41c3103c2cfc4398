/-! the model lives -/
def enG (V : Wd) (P : Pr) (wet : Nat → Bool) (k j : Nat) : Int32 := if (lifeQ V P wet k).2.1 = j + 1 then opI (endS V P wet k) else -1
def mtF (V : Wd) (P : Nat → Pr) (wet : Nat → Bool) (s a b : Nat) : Bool := decide ((lifeQ V (P a) wet (s + 1)).2.1 = 0) && (decide ((lifeQ V (P b) wet (s + 1)).2.1 = 0) && decide (cellI V (P a) wet s = cellI V (P b) wet s))
def metG (F : Nat → Nat → Nat → Bool) (q : Nat) : Nat → Option (Nat × Nat × Nat)
  | 0 => none
  | s + 1 => match metG F q s with
    | some x => some x
    | none => match mtO (F s) q with
      | some (a, b) => some (s, a, b)
      | none => none
def metI (m : am_M) (x : Option (Nat × Nat × Nat)) : Prop := match x with
  | none => m.1 0 28 = -1 ∧ m.1 0 29 = -1 ∧ m.1 0 30 = -1
  | some (s, a, b) => m.1 0 28 = nI s ∧ m.1 0 29 = nI a ∧ m.1 0 30 = nI b
theorem metG_lt {F : Nat → Nat → Nat → Bool} {q : Nat} : ∀ {s : Nat} {x : Nat × Nat × Nat}, metG F q s = some x → x.1 < s
  | s + 1, x, h => by
    rw [metG] at h
    cases hz : metG F q s with
    | some y => rw [hz] at h; cases h; have := metG_lt hz; omega
    | none =>
      rw [hz] at h
      dsimp only at h
      cases hy : mtO (F s) q with
      | some ab => rw [hy] at h; cases h; exact Nat.lt_succ_self s
      | none => rw [hy] at h; cases h
def mLp (m : am_M) (V : Wd) (P : Pr) (wet : Nat → Bool) (p k : Nat) : Prop := mQ m p (lifeQ V P wet k) ∧ (∀ j, j < 2 → m.1 19 (2 * p + j) = enG V P wet k j) ∧ ∀ s, s < k → ∀ j, j < 4 → m.1 18 (32 * s + 4 * p + j) = rowI V P wet s j
def mLv (m : am_M) (V : Wd) (P : Nat → Pr) (wet : Nat → Bool) (q : Nat) : Prop := (∀ p, p < q → mLp m V (P p) wet p 30) ∧ (∀ l, l < 8 → m.1 20 l = nI (sumN (fun p => tmS V (P p) wet l) q)) ∧ metI m (metG (mtF V P wet) q 30)
def tmK (V : Wd) (P : Pr) (wet : Nat → Bool) (l k : Nat) : Nat := timesS (fun s => wbI (lifeB V P wet s)) (nI l) k
def kp (s i p : Nat) : Nat := if p < i then s + 1 else s
def mIn (m : am_M) (V : Wd) (P : Nat → Pr) (wet : Nat → Bool) (q s i : Nat) : Prop := (∀ p, p < q → mLp m V (P p) wet p (kp s i p)) ∧ (∀ l, l < 8 → m.1 20 l = nI (sumN (fun p => tmK V (P p) wet l (kp s i p)) q)) ∧ metI m (metG (mtF V P wet) q s)
theorem sumN_congr {f g : Nat → Nat} : ∀ {n : Nat}, (∀ i, i < n → f i = g i) → sumN f n = sumN g n
  | 0, _ => rfl
  | n + 1, h => by rw [sumN, sumN, sumN_congr (fun i hi => h i (by omega)), h n (by omega)]
theorem sumN_one {f g : Nat → Nat} {i e : Nat} : ∀ {n : Nat}, i < n → g i = f i + e → (∀ k, k ≠ i → g k = f k) → sumN g n = sumN f n + e
  | n + 1, h, h1, h2 => by
    rw [sumN, sumN]
    by_cases z : i = n
    · rw [← z, h1, sumN_congr (f := g) (g := f) (fun k hk => h2 k (by omega))]; omega
    · rw [sumN_one (by omega) h1 h2, h2 n (fun q => z q.symm)]; omega
theorem am_fw.tr {p : Nat} {w w' w'' : am_M} (h : am_fw p w w') (h' : am_fw p w' w'') : am_fw p w w'' := ⟨fun a ha => (h'.1 a ha).trans (h.1 a ha), fun a j h1 h2 h3 => (h'.2.1 a j h1 h2 h3).trans (h.2.1 a j h1 h2 h3), fun a j h1 h2 h3 => (h'.2.2.1 a j h1 h2 h3).trans (h.2.2.1 a j h1 h2 h3), h'.2.2.2.trans h.2.2.2⟩
theorem am_fw.fx {p : Nat} {C J : List Nat} {w w' w'' : am_M} (h : am_fx C J w w') (h' : am_fw p w' w'') (hC : ∀ a, 13 ≤ a → a ≤ 20 → a ∈ C) : am_fx C J w w'' := by
  refine ⟨fun a ha h0 => (h'.1 a ?_).trans (h.1 a ha h0), fun j hj => (congrFun (h'.1 0 (by omega)) j).trans (h.2.1 j hj), h'.2.2.2.trans h.2.2⟩
  apply Decidable.byContradiction
  intro z
  exact ha (hC a (by omega) (by omega))
theorem goS_b {V : Wd} {P : Pr} {s k : Nat} {r : Bool} {q : Qs} (hP : Pok P) (h : (goS V P s r q).2 = some k) : k < 8 := by
  have h1 := hP.2.1
  have h2 := hP.2.2.1
  unfold goS at h
  by_cases a : q.2.1 ≠ 0
  · rw [if_pos a] at h; cases h
  · rw [if_neg a] at h
    by_cases b : (if r = true then 0 else q.2.2.1 + 2 ^ P.2.2.2.1) < 3 ^ P.2.2.2.1
    · rw [if_pos b] at h; cases h
    · rw [if_neg b] at h
      by_cases c : (if s % 2 = 0 then P.2.1 else P.2.2.1) < V.2.2.2.1
      · rw [if_pos c] at h
        have h := Option.some.inj h
        rw [← h]
        split <;> assumption
      · rw [if_neg c] at h; cases h
theorem kp_ne {s i p : Nat} (e : p ≠ i) : kp s (i + 1) p = kp s i p := by
  unfold kp
  by_cases z : p < i
  · rw [if_pos z, if_pos (by omega)]
  · rw [if_neg z, if_neg (by omega)]
theorem kp_at {s i : Nat} : kp s (i + 1) i = s + 1 := by unfold kp; rw [if_pos (by omega)]
theorem ix32 (s i : Nat) : (32 : Int32) * nI s + (4 : Int32) * nI i = nI (32 * s + 4 * i) := by rw [show (32 : Int32) = nI 32 from rfl, show (4 : Int32) = nI 4 from rfl, pk_mul, pk_mul, nI_add]
set_option maxHeartbeats 2000000 in
theorem m_lives {d q W : Nat} {V : Wd} {P : Nat → Pr} {wet : Nat → Bool} {w : am_M} (hd : 4 ≤ d) (hV : mV w V W) (hW : mW w wet) (hq : w.1 0 14 = nI q) (hq8 : q ≤ 8) (hP : ∀ p, p < q → mPr w p (P p) ∧ Pok (P p)) : ∃ o : am_O, (o.1 = none ∧ am_fx [13, 14, 15, 16, 17, 18, 19, 20] [28, 29, 30] w o.2 ∧ mLv o.2 V P wet q) ∧ am_D shM d mi_X12_lives [.ref 0] w o := by
  have hVok : Vok V := hV.2.2.2.2.2.1
  have hg := hVok.good
  have fV : ∀ m, am_fx [13, 14, 15, 16, 17, 18, 19, 20] [28, 29, 30] w m → mV m V W := fun m hm => hV.fr (fun j hj => hm.2.1 j (by rcases hj with z | z | z <;> (rw [z]; decide))) (fun a h1 h2 => hm.1 a (by simp; omega) (by omega))
  have fW : ∀ m, am_fx [13, 14, 15, 16, 17, 18, 19, 20] [28, 29, 30] w m → mW m wet := fun m hm => hW.fr (hm.2.1 19 (by decide)) (hm.2.1 16 (by decide)) (hm.2.1 18 (by decide)) (hm.1 12 (by decide) (by decide))
  have fq : ∀ m, am_fx [13, 14, 15, 16, 17, 18, 19, 20] [28, 29, 30] w m → m.1 0 14 = nI q := fun m hm => (hm.2.1 14 (by decide)).trans hq
  have fP : ∀ m, am_fx [13, 14, 15, 16, 17, 18, 19, 20] [28, 29, 30] w m → ∀ p, p < q → mPr m p (P p) := fun m hm p hp => by unfold mPr; rw [hm.1 11 (by decide) (by decide)]; exact (hP p hp).1
  have inner : ∀ s, s < 30 → (∀ m : am_M, am_fx [13, 14, 15, 16, 17, 18, 19, 20] [28, 29, 30] w m → mIn m V P wet q (s + 1) 0 → am_R shM mi_X12_lives (am_D shM (d - 1)) (fun o => (o.1 = none ∧ am_fx [13, 14, 15, 16, 17, 18, 19, 20] [28, 29, 30] w o.2 ∧ mLv o.2 V P wet q)) 6 [(0, .ref 0), (1, .int (nI s + 1))] [] m) → ∀ j i : Nat, i + j = q → ∀ m : am_M, am_fx [13, 14, 15, 16, 17, 18, 19, 20] [28, 29, 30] w m → mIn m V P wet q s i → am_R shM mi_X12_lives (am_D shM (d - 1)) (fun o => (o.1 = none ∧ am_fx [13, 14, 15, 16, 17, 18, 19, 20] [28, 29, 30] w o.2 ∧ mLv o.2 V P wet q)) 14 [(0, .ref 0), (1, .int (nI s)), (2, .int (nI i))] [] m := by
    intro s hs next j
    induction j with
    | zero =>
      intro i hi m hm hI
      obtain ⟨hA, hB, hC⟩ := hI
      have hkp : ∀ p, p < q → kp s i p = kp (s + 1) 0 p := fun p hp => by unfold kp; rw [if_pos (by omega), if_neg (by omega)]
      have hA' : ∀ p, p < q → mLp m V (P p) wet p (kp (s + 1) 0 p) := fun p hp => by rw [← hkp p hp]; exact hA p hp
      have hB' : ∀ l, l < 8 → m.1 20 l = nI (sumN (fun p => tmK V (P p) wet l (kp (s + 1) 0 p)) q) := fun l hl => by rw [hB l hl, sumN_congr (fun p hp => by rw [hkp p hp])]
      have hst : ∀ p, p < q → m.1 14 p = nI (lifeQ V (P p) wet (s + 1)).2.1 ∧ m.1 13 p = cellI V (P p) wet s ∧ (lifeQ V (P p) wet (s + 1)).2.1 < 4 := fun p hp => by
        have := (hA p hp).1
        unfold kp at this
        rw [if_pos (by omega)] at this
        exact ⟨this.2.1, this.1, (qok_life wet hg (hP p hp).2 (s + 1)).1⟩
      refine am_go rfl ?_
      iterate 3 refine am_g0 rfl rfl ?_
      refine am_tt (show (m.1 0 14 : Int32) ≤ (nI i) from by rw [fq m hm]; exact nI_le (by omega) (by omega)) ?_
      refine am_go rfl ?_
      iterate 2 refine am_g0 rfl rfl ?_
      cases hG : metG (mtF V P wet) q s with
      | some x =>
        have hx := metG_lt hG
        rw [hG] at hC
        have hG1 : metG (mtF V P wet) q (s + 1) = some x := by rw [metG, hG]
        refine ⟨(none, m), m_meet_f (by omega) (by rw [hC.1]; exact nI_m1 (by omega)), ?_⟩
        refine am_to (lv' := [(0, .ref 0), (1, .int (nI s))]) (st' := []) (w' := m) rfl rfl rfl ?_
        iterate 2 refine am_g0 rfl rfl ?_
        exact am_kl (next m hm ⟨hA', hB', by rw [hG1]; exact hC⟩) rfl
      | none =>
        rw [hG] at hC
        obtain ⟨⟨r1, w1⟩, ⟨e1, f1⟩, hD⟩ := m_meet_t (d := d - 1) (s := s) (F := mtF V P wet s) (by omega) hs hC.1 (fq m hm) hq8 (fun a b ha hb => by
          obtain ⟨a1, a2, a3⟩ := hst a ha
          obtain ⟨b1, b2, b3⟩ := hst b hb
          unfold mtF
          rw [a1, b1, a2, b2]
          simp only [Bool.and_eq_true, decide_eq_true_eq]
          constructor
          · intro ⟨z1, z2, z3⟩
            exact ⟨by rw [z1]; rfl, by rw [z2]; rfl, z3⟩
          · intro ⟨z1, z2, z3⟩
            exact ⟨Decidable.byContradiction fun z => nne (b := 0) z (by omega) (by omega) z1, Decidable.byContradiction fun z => nne (b := 0) z (by omega) (by omega) z2, z3⟩)
        dsimp only at e1 f1
        subst e1
        refine ⟨(none, w1), hD, ?_⟩
        refine am_to (lv' := [(0, .ref 0), (1, .int (nI s))]) (st' := []) (w' := w1) rfl rfl rfl ?_
        iterate 2 refine am_g0 rfl rfl ?_
        cases hy : mtO (mtF V P wet s) q with
        | none =>
          rw [hy] at f1
          have f1 : w1 = m := f1
          subst f1
          exact am_kl (next w1 hm ⟨hA', hB', by rw [metG, hG, hy]; exact hC⟩) rfl
        | some ab =>
          obtain ⟨a, b⟩ := ab
          rw [hy] at f1
          have f1 : w1 = am_pi (am_pi (am_pi m 0 28 (nI s)) 0 29 (nI a)) 0 30 (nI b) := f1
          have e : ∀ c, c ≠ 0 → w1.1 c = m.1 c := fun c hc => by rw [f1, am_pi_row hc, am_pi_row hc, am_pi_row hc]
          refine am_kl (next w1 (by rw [f1]; exact ((hm.p0 (by decide)).p0 (by decide)).p0 (by decide)) ⟨fun p hp => ?_, fun l hl => ?_, ?_⟩) rfl
          · unfold mLp mQ
            rw [e 13 (by omega), e 14 (by omega), e 15 (by omega), e 17 (by omega), e 19 (by omega), e 18 (by omega)]
            exact hA' p hp
          · rw [e 20 (by omega)]; exact hB' l hl
          · rw [metG, hG, hy, f1]
            exact ⟨rfl, rfl, rfl⟩
    | succ j ih =>
      intro i hi m hm hI
      obtain ⟨hA, hB, hC⟩ := hI
      have hiq : i < q := by omega
      have hPk := (hP i hiq).2
      have hki : kp s i i = s := by unfold kp; rw [if_neg (Nat.lt_irrefl i)]
      have hAi := hA i hiq
      rw [hki] at hAi
      obtain ⟨hQ, hE, hR⟩ := hAi
      have hqk := qok_life wet hg hPk s
      have at44 : ∀ v : am_M, am_fw i m v → mQ v i (lifeQ V (P i) wet (s + 1)) → v.1 16 i = wbI (lifeB V (P i) wet s) → (∀ j, j < 2 → v.1 19 (2 * i + j) = enG V (P i) wet (s + 1) j) → (∀ l, l < 8 → v.1 20 l = m.1 20 l + wnT (lifeB V (P i) wet s) l) → am_R shM mi_X12_lives (am_D shM (d - 1)) (fun o => (o.1 = none ∧ am_fx [13, 14, 15, 16, 17, 18, 19, 20] [28, 29, 30] w o.2 ∧ mLv o.2 V P wet q)) 44 [(0, .ref 0), (1, .int (nI s)), (2, .int (nI i))] [] v := by
        intro v fv vQ v16 vE v20
        refine am_go rfl ?_
        iterate 11 refine am_g0 rfl rfl ?_
        refine am_glN (n := 8) (k := i) rfl rfl (by omega) (by decide) ?_
        refine am_top (y := plc (lifeQ V (P i) wet (s + 1))) (vQ.1) ?_
        refine am_gsE (n := 960) (k := 32 * s + 4 * i) rfl rfl (ix32 s i) (by omega) (by decide) ?_
        refine am_to (lv' := [(0, .ref 0), (1, .int (nI s)), (2, .int (nI i))]) (st' := []) (w' := am_pi v 18 (32 * s + 4 * i) (plc (lifeQ V (P i) wet (s + 1)))) rfl rfl rfl ?_
        iterate 14 refine am_g0 rfl rfl ?_
        refine am_glN (n := 8) (k := i) rfl rfl (by omega) (by decide) ?_
        refine am_top (y := nI (lifeQ V (P i) wet (s + 1)).2.1) (by rw [am_pi_row (by omega)]; exact vQ.2.1) ?_
        refine am_gsE (n := 960) (k := 32 * s + 4 * i + 1) rfl rfl (by rw [ix32]; exact nI_add _ 1) (by omega) (by decide) ?_
        refine am_to (lv' := [(0, .ref 0), (1, .int (nI s)), (2, .int (nI i))]) (st' := []) (w' := am_pi (am_pi v 18 (32 * s + 4 * i) (plc (lifeQ V (P i) wet (s + 1)))) 18 (32 * s + 4 * i + 1) (nI (lifeQ V (P i) wet (s + 1)).2.1)) rfl rfl rfl ?_
        iterate 14 refine am_g0 rfl rfl ?_
        refine am_glN (n := 8) (k := i) rfl rfl (by omega) (by decide) ?_
        refine am_top (y := nI (lifeQ V (P i) wet (s + 1)).2.2.1) (by rw [am_pi_row (by omega), am_pi_row (by omega)]; exact vQ.2.2.1) ?_
        refine am_gsE (n := 960) (k := 32 * s + 4 * i + 2) rfl rfl (by rw [ix32]; exact nI_add _ 2) (by omega) (by decide) ?_
        refine am_to (lv' := [(0, .ref 0), (1, .int (nI s)), (2, .int (nI i))]) (st' := []) (w' := am_pi (am_pi (am_pi v 18 (32 * s + 4 * i) (plc (lifeQ V (P i) wet (s + 1)))) 18 (32 * s + 4 * i + 1) (nI (lifeQ V (P i) wet (s + 1)).2.1)) 18 (32 * s + 4 * i + 2) (nI (lifeQ V (P i) wet (s + 1)).2.2.1)) rfl rfl rfl ?_
        iterate 14 refine am_g0 rfl rfl ?_
        refine am_glN (n := 8) (k := i) rfl rfl (by omega) (by decide) ?_
        refine am_top (y := wbI (lifeB V (P i) wet s)) (by rw [am_pi_row (by omega), am_pi_row (by omega), am_pi_row (by omega)]; exact v16) ?_
        refine am_gsE (n := 960) (k := 32 * s + 4 * i + 3) rfl rfl (by rw [ix32]; exact nI_add _ 3) (by omega) (by decide) ?_
        refine am_to (lv' := [(0, .ref 0), (1, .int (nI s)), (2, .int (nI i))]) (st' := []) (w' := am_pi (am_pi (am_pi (am_pi v 18 (32 * s + 4 * i) (plc (lifeQ V (P i) wet (s + 1)))) 18 (32 * s + 4 * i + 1) (nI (lifeQ V (P i) wet (s + 1)).2.1)) 18 (32 * s + 4 * i + 2) (nI (lifeQ V (P i) wet (s + 1)).2.2.1)) 18 (32 * s + 4 * i + 3) (wbI (lifeB V (P i) wet s))) rfl rfl rfl ?_
        refine am_to (lv' := [(0, .ref 0), (1, .int (nI s)), (2, .int (nI i))]) (st' := []) (w' := am_pi (am_pi (am_pi (am_pi v 18 (32 * s + 4 * i) (plc (lifeQ V (P i) wet (s + 1)))) 18 (32 * s + 4 * i + 1) (nI (lifeQ V (P i) wet (s + 1)).2.1)) 18 (32 * s + 4 * i + 2) (nI (lifeQ V (P i) wet (s + 1)).2.2.1)) 18 (32 * s + 4 * i + 3) (wbI (lifeB V (P i) wet s))) rfl rfl rfl ?_
        generalize hx : am_pi (am_pi (am_pi (am_pi v 18 (32 * s + 4 * i) (plc (lifeQ V (P i) wet (s + 1)))) 18 (32 * s + 4 * i + 1) (nI (lifeQ V (P i) wet (s + 1)).2.1)) 18 (32 * s + 4 * i + 2) (nI (lifeQ V (P i) wet (s + 1)).2.2.1)) 18 (32 * s + 4 * i + 3) (wbI (lifeB V (P i) wet s)) = x
        have xe : ∀ a, a ≠ 18 → x.1 a = v.1 a := fun a ha => by rw [← hx, am_pi_row ha, am_pi_row ha, am_pi_row ha, am_pi_row ha]
        have x18 : ∀ e, (e < 32 * s + 4 * i ∨ 32 * s + 4 * i + 3 < e) → x.1 18 e = m.1 18 e := fun e he => by rw [← hx, am_pi_ne (Or.inr (by omega)), am_pi_ne (Or.inr (by omega)), am_pi_ne (Or.inr (by omega)), am_pi_ne (Or.inr (by omega)), fv.1 18 (by omega)]
        have xk : ∀ j, j < 4 → x.1 18 (32 * s + 4 * i + j) = rowI V (P i) wet s j := fun j hj => by
          rw [← hx]
          match j, hj with
          | 0, _ => rw [show 32 * s + 4 * i + 0 = 32 * s + 4 * i from rfl, am_pi_ne (Or.inr (by omega)), am_pi_ne (Or.inr (by omega)), am_pi_ne (Or.inr (by omega)), am_pi_at]; rfl
          | 1, _ => rw [am_pi_ne (Or.inr (by omega)), am_pi_ne (Or.inr (by omega)), am_pi_at]; rfl
          | 2, _ => rw [am_pi_ne (Or.inr (by omega)), am_pi_at]; rfl
          | 3, _ => rw [am_pi_at]; rfl
        have fx : am_fx [13, 14, 15, 16, 17, 18, 19, 20] [28, 29, 30] w x := by
          rw [← hx]
          exact ((((am_fw.fx hm fv (fun a h1 h2 => by simp; omega)).pc (by decide) (by decide)).pc (by decide) (by decide)).pc (by decide) (by decide)).pc (by decide) (by decide)
        iterate 2 refine am_g0 rfl rfl ?_
        have this := ih (i + 1) (by omega) x fx ⟨fun p hp => ?_, fun l hl => ?_, ?_⟩
        · rw [← nI_1 i] at this
          exact am_kl this rfl
        · by_cases e : p = i
          · subst e
            rw [kp_at]
            refine ⟨?_, fun j hj => by rw [xe 19 (by omega)]; exact vE j hj, fun s' hs' j hj => ?_⟩
            · unfold mQ
              rw [xe 13 (by omega), xe 14 (by omega), xe 15 (by omega), xe 17 (by omega)]
              exact vQ
            · by_cases es : s' = s
              · rw [es]; exact xk j hj
              · rw [x18 _ (by omega)]; exact hR s' (by omega) j hj
          · rw [kp_ne e]
            obtain ⟨⟨b1, b2, b3, b4, b5⟩, b6, b7⟩ := hA p hp
            have hkps : kp s i p ≤ s + 1 := by unfold kp; split <;> omega
            refine ⟨⟨?_, ?_, ?_, ?_, ?_⟩, fun j hj => ?_, fun s' hs' j hj => ?_⟩
            · rw [xe 13 (by omega), fv.2.1 13 p (by omega) (by omega) e]; exact b1
            · rw [xe 14 (by omega), fv.2.1 14 p (by omega) (by omega) e]; exact b2
            · rw [xe 15 (by omega), fv.2.1 15 p (by omega) (by omega) e]; exact b3
            · rw [xe 17 (by omega), fv.2.2.1 17 _ (by omega) (by omega) (by omega)]; exact b4
            · rw [xe 17 (by omega), fv.2.2.1 17 _ (by omega) (by omega) (by omega)]; exact b5
            · rw [xe 19 (by omega), fv.2.2.1 19 _ (by omega) (by omega) (by omega)]; exact b6 j hj
            · rw [x18 _ (by omega)]; exact b7 s' hs' j hj
        · rw [xe 20 (by omega), v20 l hl, hB l hl]
          have hδ : ∃ e, wnT (lifeB V (P i) wet s) l = nI e ∧ tmK V (P i) wet l (s + 1) = tmK V (P i) wet l s + e := by
            have hstep : tmK V (P i) wet l (s + 1) = if wbI (lifeB V (P i) wet s) = nI l then tmK V (P i) wet l s + 1 else tmK V (P i) wet l s := rfl
            rcases opt_or (lifeB V (P i) wet s) with z | ⟨k, z⟩
            · refine ⟨0, by rw [z]; rfl, ?_⟩
              rw [hstep, z, if_neg (fun y => nI_m1 (i := l) (by omega) y.symm)]
              rfl
            · have hk8 := goS_b hPk z
              by_cases ekl : l = k
              · refine ⟨1, by rw [z]; show (if l = k then (1 : Int32) else 0) = nI 1; rw [if_pos ekl]; rfl, ?_⟩
                rw [hstep, z, if_pos (by rw [ekl]; rfl)]
              · refine ⟨0, by rw [z]; show (if l = k then (1 : Int32) else 0) = nI 0; rw [if_neg ekl]; rfl, ?_⟩
                rw [hstep, z, if_neg (fun y => ekl ((nI_eq (by omega) (by omega)).mp y.symm))]
                rfl
          obtain ⟨e, he1, he2⟩ := hδ
          rw [he1, nI_add]
          congr 1
          refine (sumN_one (i := i) (e := e) hiq ?_ (fun k hk => ?_)).symm
          · rw [hki, kp_at]; exact he2
          · rw [kp_ne hk]
        · unfold metI at hC ⊢
          rw [xe 0 (by omega), fv.1 0 (by omega)]
          exact hC
      refine am_go rfl ?_
      iterate 3 refine am_g0 rfl rfl ?_
      refine am_ff (show ¬ (m.1 0 14 : Int32) ≤ (nI i) from by rw [fq m hm]; exact nI_ge (by omega) (by omega)) ?_
      iterate 4 refine am_g0 rfl rfl ?_
      refine am_gsN (n := 8) (k := i) rfl rfl (by omega) (by decide) ?_
      refine am_to (lv' := [(0, .ref 0), (1, .int (nI s)), (2, .int (nI i))]) (st' := []) (w' := am_pi m 16 i (-1)) rfl rfl rfl ?_
      have f1 : am_fw i m (am_pi m 16 i (-1)) := am_fw.rf.p1 (by omega) (by omega)
      have e1 : ∀ a, a ≠ 16 → (am_pi m 16 i (-1)).1 a = m.1 a := fun a ha => am_pi_row ha
      have e16 : (am_pi m 16 i (-1)).1 16 i = -1 := am_pi_at _ _ _ _
      have fx1 : am_fx [13, 14, 15, 16, 17, 18, 19, 20] [28, 29, 30] w (am_pi m 16 i (-1)) := hm.pc (by decide) (by decide)
      generalize hm1 : am_pi m 16 i (-1) = m1
      rw [hm1] at f1 e16 fx1
      have e1 : ∀ a, a ≠ 16 → m1.1 a = m.1 a := by rw [← hm1]; exact e1
      have hQ1 : mQ m1 i (lifeQ V (P i) wet s) := by unfold mQ; rw [e1 13 (by omega), e1 14 (by omega), e1 15 (by omega), e1 17 (by omega)]; exact hQ
      iterate 3 refine am_g0 rfl rfl ?_
      refine am_glN (n := 8) (k := i) rfl rfl (by omega) (by decide) ?_
      refine am_top (y := nI (lifeQ V (P i) wet s).2.1) (hQ1.2.1) ?_
      refine am_g0 rfl rfl ?_
      by_cases hz : (lifeQ V (P i) wet s).2.1 = 0
      · refine am_tt (show (nI (lifeQ V (P i) wet s).2.1 : Int32) = 0 from by rw [hz]; rfl) ?_
        iterate 4 refine am_g0 rfl rfl ?_
        obtain ⟨⟨r2, w2⟩, ⟨a1, a2, a3, a4, a5, a6⟩, hD⟩ := m_walks (d := d - 1) (by omega) (fV m1 fx1) (fW m1 fx1) (fP m1 fx1 i hiq) hPk hQ1 hqk hz hs (by omega)
        dsimp only at a1 a2 a3 a4 a5 a6
        subst a1
        refine ⟨(none, w2), hD, ?_⟩
        refine am_to (lv' := [(0, .ref 0), (1, .int (nI s)), (2, .int (nI i))]) (st' := []) (w' := w2) rfl rfl rfl ?_
        refine am_kl (at44 w2 (f1.tr a2) a3 a4 (fun j hj => ?_) (fun l hl => by rw [a6 l hl, e1 20 (by omega)]; rfl)) rfl
        rw [a5 j hj, e1 19 (by omega), hE j hj]
        unfold enG
        rw [if_neg (show ¬ (lifeQ V (P i) wet s).2.1 = j + 1 by omega)]
        have hL : (goS V (P i) s (wet s) (lifeQ V (P i) wet s)).1 = lifeQ V (P i) wet (s + 1) := rfl
        rw [hL]
        by_cases e : (lifeQ V (P i) wet (s + 1)).2.1 = j + 1
        · rw [if_pos e, if_pos e, endS, if_pos ⟨hz, by omega⟩]; rfl
        · rw [if_neg e, if_neg e]
      · refine am_ff (show ¬ (nI (lifeQ V (P i) wet s).2.1 : Int32) = 0 from nne (b := 0) hz (by have := hqk.1; omega) (by omega)) ?_
        have hL : lifeQ V (P i) wet (s + 1) = lifeQ V (P i) wet s := goS_stay hz
        have hB0 : lifeB V (P i) wet s = none := by unfold lifeB goS; rw [if_pos hz]
        refine am_kl (at44 m1 f1 (by rw [hL]; exact hQ1) (by rw [hB0]; exact e16) (fun j hj => ?_) (fun l hl => by rw [hB0, e1 20 (by omega)]; exact (Int32.add_zero _).symm)) rfl
        rw [e1 19 (by omega), hE j hj]
        have hN : endS V (P i) wet (s + 1) = endS V (P i) wet s := by rw [endS, if_neg (fun z => hz z.1)]
        unfold enG
        rw [hL, hN]
  refine am_dex (by omega) rfl rfl ?_
  iterate 2 refine am_g0 rfl rfl ?_
  obtain ⟨⟨r1, w1⟩, ⟨e1, f1, g1, g2, g3, g4, g5⟩, hD1⟩ := m_begins (d := d - 1) (by omega) hV hq hq8 hP
  dsimp only at e1 f1 g1 g2 g3 g4 g5
  subst e1
  refine ⟨(none, w1), hD1, ?_⟩
  refine am_to (lv' := [(0, .ref 0)]) (st' := []) (w' := w1) rfl rfl rfl ?_
  have fx1 : am_fx [13, 14, 15, 16, 17, 18, 19, 20] [28, 29, 30] w w1 := f1.mono (by decide) (by decide)
  iterate 2 refine am_g0 rfl rfl ?_
  have key : ∀ j s : Nat, s + j = 30 → ∀ m : am_M, am_fx [13, 14, 15, 16, 17, 18, 19, 20] [28, 29, 30] w m → mIn m V P wet q s 0 → am_R shM mi_X12_lives (am_D shM (d - 1)) (fun o => (o.1 = none ∧ am_fx [13, 14, 15, 16, 17, 18, 19, 20] [28, 29, 30] w o.2 ∧ mLv o.2 V P wet q)) 6 [(0, .ref 0), (1, .int (nI s))] [] m := by
    intro j
    induction j with
    | zero =>
      intro s hs m hm hI
      refine am_go rfl ?_
      iterate 2 refine am_g0 rfl rfl ?_
      refine am_tt (show (30 : Int32) ≤ (nI s) from nI_le (a := 30) (by omega) (by omega)) ?_
      refine am_go rfl ?_
      have es : s = 30 := by omega
      subst es
      have hk : ∀ p, kp 30 0 p = 30 := fun p => by unfold kp; rw [if_neg (Nat.not_lt_zero p)]
      obtain ⟨hA, hB, hC⟩ := hI
      refine ⟨rfl, rfl, hm, fun p hp => ?_, fun l hl => ?_, hC⟩
      · have := hA p hp
        rw [hk] at this
        exact this
      · have := hB l hl
        rw [show m.1 20 l = nI (sumN (fun p => tmK V (P p) wet l (kp 30 0 p)) q) from this, sumN_congr (g := fun p => tmS V (P p) wet l) (fun p hp => by rw [hk p]; rfl)]
    | succ j ih =>
      intro s hs m hm hI
      refine am_go rfl ?_
      iterate 2 refine am_g0 rfl rfl ?_
      refine am_ff (show ¬ (30 : Int32) ≤ (nI s) from nI_ge (b := 30) (by omega) (by omega)) ?_
      iterate 2 refine am_g0 rfl rfl ?_
      refine am_kl (inner s (by omega) (fun m' hm' hI' => ?_) q 0 (by omega) m hm hI) rfl
      have := ih (s + 1) (by omega) m' hm' hI'
      rw [← nI_1 s] at this
      exact this
  refine am_kl (key 30 0 (by omega) w1 fx1 ⟨fun p hp => ?_, fun l hl => ?_, g3, g4, g5⟩) rfl
  · have hk : kp 0 0 p = 0 := by unfold kp; rw [if_neg (Nat.not_lt_zero p)]
    rw [hk]
    obtain ⟨b1, b2⟩ := g1 p hp
    refine ⟨b1, fun j hj => ?_, fun s hs => absurd hs (Nat.not_lt_zero s)⟩
    rw [b2 j hj]
    unfold enG
    split
    · rfl
    · rfl
  · rw [g2 l hl, sumN_congr (g := fun _ => 0) (fun p hp => by show tmK V (P p) wet l (kp 0 0 p) = 0; rw [show kp 0 0 p = 0 by unfold kp; rw [if_neg (Nat.not_lt_zero p)]]; rfl)]
    have : ∀ n, sumN (fun _ => 0) n = 0 := fun n => by
      induction n with
      | zero => rfl
      | succ n ih => rw [sumN, ih]
    rw [this]
    rfl
