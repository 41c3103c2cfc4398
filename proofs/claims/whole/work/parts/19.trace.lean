/-! lives, and a trace of one -/
def lifeQ (V : Wd) (P : Pr) (wet : Nat → Bool) : Nat → Qs
  | 0 => beginS V P
  | k + 1 => (goS V P k (wet k) (lifeQ V P wet k)).1
def lifeB (V : Wd) (P : Pr) (wet : Nat → Bool) (k : Nat) : Option Nat := (goS V P k (wet k) (lifeQ V P wet k)).2
def endS (V : Wd) (P : Pr) (wet : Nat → Bool) : Nat → Option Nat
  | 0 => none
  | k + 1 => if (lifeQ V P wet k).2.1 = 0 ∧ (lifeQ V P wet (k + 1)).2.1 ≠ 0 then some k else endS V P wet k
/-- the bits of a word -/
def wetB (x : Int32) (s : Nat) : Bool := !decide ((x >>> (nI s &&& 31)) &&& 1 = 0)
/-- what holds of a town and lasts -/
def Vgood (V : Wd) : Prop := (∀ c, c < V.1 → V.2.1 c < 4) ∧ (∀ c, c < V.1 → ∀ a, a < 4 → V.2.2.1 c a < V.1) ∧ ∀ l, l < V.2.2.2.1 → 1 ≤ V.2.2.2.2.2.1 l ∧ ∀ j, j < V.2.2.2.2.2.1 l → V.2.2.2.2.2.2 l j < 4
theorem cV.good {w : am_M} {V : Wd} (h : cV w V) : Vgood V := ⟨fun c hc => (h.1.2.2.1 c hc).2, fun c hc a ha => (h.1.2.2.2 c hc a ha).2.1, fun l hl => ⟨(h.2.2.2 l hl).2.2.2.1, fun j hj => ((h.2.2.2 l hl).2.2.2.2.2 j hj).2⟩⟩
theorem qok_begin {V : Wd} (P : Pr) : qok V P (beginS V P) 0 := by
  unfold beginS
  have h3 : 0 < 3 ^ P.2.2.2.1 := Nat.pow_pos (by omega)
  split
  · exact ⟨stOf_lt _, fun _ => ⟨by assumption, rfl⟩, h3, Nat.le_refl _, Nat.le_refl _⟩
  · exact ⟨(by omega : 3 < 4), fun z => absurd rfl z, h3, Nat.le_refl _, Nat.le_refl _⟩
theorem qok_go {V : Wd} {P : Pr} {q : Qs} {s : Nat} (r : Bool) (hg : Vgood V) (hP : Pok P) (h : qok V P q s) : qok V P (goS V P s r q).1 (s + 1) := by
  obtain ⟨h1, h2, h3, h4, h5⟩ := h
  obtain ⟨-, -, -, b4, b5⟩ := hP
  have hpw := pow_bd P.2.2.2.1 b4
  have hc0 : 0 < 3 ^ P.2.2.2.1 := Nat.pow_pos (by omega)
  have hlt : (if r then 0 else q.2.2.1 + 2 ^ P.2.2.2.1) - 3 ^ P.2.2.2.1 < 3 ^ P.2.2.2.1 := by
    cases r with
    | true => simp only [if_true]; omega
    | false => simp only [Bool.false_eq_true, if_false]; omega
  unfold goS
  by_cases hz : q.2.1 ≠ 0
  · rw [if_pos hz]
    exact ⟨h1, h2, h3, Nat.le_succ_of_le h4, Nat.le_succ_of_le h5⟩
  · rw [if_neg hz]
    have hcn : q.1 < V.1 := (h2 (by omega)).1
    generalize (if r then 0 else q.2.2.1 + 2 ^ P.2.2.2.1) = W0 at hlt ⊢
    by_cases hw : W0 < 3 ^ P.2.2.2.1
    · rw [if_pos hw]
      exact ⟨stOf_lt _, fun _ => ⟨hg.2.1 _ hcn _ b5, rfl⟩, hw, Nat.le_succ_of_le h4, Nat.le_succ_of_le h5⟩
    · rw [if_neg hw]
      generalize (if s % 2 = 0 then P.2.1 else P.2.2.1) = l
      generalize (if s % 2 = 0 then q.2.2.2.1 else q.2.2.2.2) = t
      by_cases hm : l < V.2.2.2.1
      · rw [if_pos hm]
        refine ⟨stOf_lt _, fun _ => ⟨hg.2.1 _ hcn _ (wayS_lt ((hg.2.2 _ hm).2 _ (Nat.mod_lt _ (hg.2.2 _ hm).1))), rfl⟩, hlt, ?_, ?_⟩
        · show q.2.2.2.1 + (if s % 2 = 0 then 1 else 0) ≤ s + 1
          split <;> omega
        · show q.2.2.2.2 + (if s % 2 = 0 then 0 else 1) ≤ s + 1
          split <;> omega
      · rw [if_neg hm]
        exact ⟨stOf_lt _, fun _ => ⟨hg.2.1 _ hcn _ b5, rfl⟩, hlt, Nat.le_succ_of_le h4, Nat.le_succ_of_le h5⟩
theorem qok_life {V : Wd} {P : Pr} (wet : Nat → Bool) (hg : Vgood V) (hP : Pok P) : ∀ k, qok V P (lifeQ V P wet k) k
  | 0 => qok_begin P
  | k + 1 => qok_go (wet k) hg hP (qok_life wet hg hP k)
def opI : Option Nat → Int32
  | none => -1
  | some k => nI k
/-- a trace's cells T (object) and R (row) tell the life -/
def rowOK (w : am_M) (R : Nat) (V : Wd) (P : Pr) (wet : Nat → Bool) (n : Nat) : Prop := ∀ s, s < n → w.1 R s = plc (lifeQ V P wet (s + 1)) ∧ w.1 R (30 + s) = nI (lifeQ V P wet (s + 1)).2.1 ∧ w.1 R (60 + s) = nI (lifeQ V P wet (s + 1)).2.2.1 ∧ w.1 R (90 + s) = wbI (lifeB V P wet s)
def trOK (w : am_M) (T R : Nat) (V : Wd) (P : Pr) (wet : Nat → Bool) : Prop := rowOK w R V P wet 30 ∧ w.1 T 1 = nI (lifeQ V P wet 30).2.1 ∧ w.1 T 2 = opI (endS V P wet 30)
theorem rowOK.fr {w w' : am_M} {R : Nat} {V : Wd} {P : Pr} {wet : Nat → Bool} {n : Nat} (h : rowOK w R V P wet n) (e : w'.1 R = w.1 R) : rowOK w' R V P wet n := fun s hs => by rw [e]; exact h s hs
theorem trOK.fr {w w' : am_M} {T R : Nat} {V : Wd} {P : Pr} {wet : Nat → Bool} (h : trOK w T R V P wet) (e1 : w'.1 T = w.1 T) (e2 : w'.1 R = w.1 R) : trOK w' T R V P wet := ⟨h.1.fr e2, by rw [e1]; exact h.2.1, by rw [e1]; exact h.2.2⟩
/-- three cells at most have changed -/
def am_f3 (a b c : Nat) (w w' : am_M) : Prop := (∀ k, k ≠ a → k ≠ b → k ≠ c → w'.1 k = w.1 k) ∧ w'.2 = w.2
theorem am_gsE {sh : List am_S} {mid : Nat} {call : Nat → List Value → am_M → am_O → Prop} {post : am_O → Prop} {pc : Nat} {lv : am_L} {st : List Value} {w : am_M} {v : Int32} {nx tg : Nat} {b n k : Nat} {i x : Int32} (he : am_at mid pc = some (.iastore, v, nx, tg)) (hn : am_ln sh b = some n) (hi : i = nI k) (hk : k < n) (hn2 : n < 2 ^ 31) (h : am_R sh mid call post nx (am_kill mid pc lv) st (am_pi w b k x)) : am_R sh mid call post pc lv (.int x :: .int i :: .ref b :: st) w := by
  subst hi
  exact am_gsN he hn hk hn2 h
set_option maxHeartbeats 4000000 in
theorem d_follow {d T R : Nat} {V : Wd} {P : Pr} {x : Int32} {w : am_M} (hd : 3 ≤ d) (hT : am_isb shC T 9 = true) (hR : am_tg shC T 0 = some R) (hL : am_ln shC R = some 120) (hT1 : 16 ≤ T) (hR1 : 16 ≤ R) (hT2 : T ≠ 52) (hR2 : R ≠ 52) (hTR : T ≠ R) (hV : cV w V) (hP : wkP (w.1 52) P) (hPb : Pok P) : ∃ o : am_O, (o.1 = none ∧ am_f3 52 T R w o.2 ∧ trOK o.2 T R V P (wetB x)) ∧ am_D shC d mi_X9_follow [.ref T, .ref 52, .int x] w o := by
  have hg := hV.good
  refine am_dex (by omega) rfl rfl ?_
  iterate 2 refine am_g0 rfl rfl ?_
  obtain ⟨⟨r1, w1⟩, ⟨e1, f1, g1, g2⟩, hD⟩ := d_begin_52 (d := d - 1) (by omega) hV hP hPb.1
  dsimp only at e1 f1 g1 g2
  subst e1
  refine ⟨(none, w1), hD, ?_⟩
  iterate 3 refine am_g0 rfl rfl ?_
  refine am_ys (show (am_isb shC T 9 && true) = true by rw [hT]; rfl) ?_
  iterate 2 refine am_g0 rfl rfl ?_
  have key : ∀ j s : Nat, s + j = 30 → ∀ m : am_M, am_f3 52 T R w m → wkP (m.1 52) P → (∃ bo, wkQ (m.1 52) (lifeQ V P (wetB x) s) bo) → rowOK m R V P (wetB x) s → m.1 T 2 = opI (endS V P (wetB x) s) → am_R shC mi_X9_follow (am_D shC (d - 1)) (fun o => o.1 = none ∧ am_f3 52 T R w o.2 ∧ trOK o.2 T R V P (wetB x)) 11 [(0, .ref T), (1, .ref 52), (2, .int x), (3, .int (nI s))] [] m := by
    intro j
    induction j with
    | zero =>
      intro s hs m hf hp hq hr he
      have e : s = 30 := by omega
      obtain ⟨bo, hq⟩ := hq
      refine am_go rfl ?_
      iterate 2 refine am_g0 rfl rfl ?_
      refine am_tt (show nI 30 ≤ nI s from nI_le (by omega) (by omega)) ?_
      refine am_to (lv' := [(0, .ref T), (1, .ref 52), (2, .int x), (3, .int (nI s))]) (st' := []) (w' := m) rfl rfl rfl ?_
      refine am_go rfl ?_
      iterate 3 refine am_g0 rfl rfl ?_
      refine am_ys (show (am_isb shC T 9 && true) = true by rw [hT]; rfl) ?_
      refine am_g0 rfl rfl ?_
      subst e
      refine ⟨rfl, rfl, ⟨fun k h1 h2 h3 => (am_pi_row h2).trans (hf.1 k h1 h2 h3), hf.2⟩, hr.fr (am_pi_row (Ne.symm hTR)), ?_, ?_⟩
      · show (am_pi m T 1 (m.1 52 8)).1 T 1 = _
        rw [am_pi_at]
        exact hq.2.1
      · show (am_pi m T 1 (m.1 52 8)).1 T 2 = _
        rw [am_pi_ne (Or.inr (by omega))]
        exact he
    | succ j ih =>
      intro s hs m hf hp hq hr he
      obtain ⟨bo, hq⟩ := hq
      have hlow : ∀ a, a < 16 → m.1 a = w.1 a := fun a ha => hf.1 a (by omega) (by omega) (by omega)
      have hqo := qok_life (V := V) (P := P) (wetB x) hg hPb s
      refine am_go rfl ?_
      iterate 2 refine am_g0 rfl rfl ?_
      refine am_ff (show ¬ nI 30 ≤ nI s from nI_ge (by omega) (by omega)) ?_
      refine am_to (lv' := [(0, .ref T), (1, .ref 52), (2, .int x), (3, .int (nI s))]) (st' := []) (w' := m) rfl rfl rfl ?_
      iterate 3 refine am_g0 rfl rfl ?_
      -- behind the test whether it walks
      have mid1 : am_R shC mi_X9_follow (am_D shC (d - 1)) (fun o => o.1 = none ∧ am_f3 52 T R w o.2 ∧ trOK o.2 T R V P (wetB x)) 29 [(0, .ref T), (1, .ref 52), (2, .int x), (3, .int (nI s))] [.int (if (lifeQ V P (wetB x) s).2.1 = 0 then 1 else 0)] m := by
        refine am_go rfl ?_
        iterate 5 refine am_g0 rfl rfl ?_
        refine ⟨(some (.int (if wetB x s then 1 else 0)), m), (by
          have h9 := d_isBitOf shC (d := d - 1) (by omega) x (nI s) m
          have e9 : (if (x >>> (nI s &&& 31)) &&& 1 = 0 then (0 : Int32) else 1) = (if wetB x s then 1 else 0) := by
            unfold wetB
            by_cases z : (x >>> (nI s &&& 31)) &&& 1 = 0
            · simp [z]
            · simp [z]
          rw [e9] at h9
          exact h9), ?_⟩
        refine am_g0 rfl rfl ?_
        obtain ⟨⟨r2, w2⟩, ⟨e2, f2, g3, g4⟩, hD2⟩ := d_go_52 (d := d - 1) (r := wetB x s) (by omega) (hV.fr hlow) hp hPb hq hqo (by omega)
        dsimp only at e2 f2 g3 g4
        subst e2
        refine ⟨(none, w2), hD2, ?_⟩
        have hst : w2.1 52 8 = nI (lifeQ V P (wetB x) (s + 1)).2.1 := g4.2.1
        have hq4 : (lifeQ V P (wetB x) (s + 1)).2.1 < 4 := (qok_life (wetB x) hg hPb (s + 1)).1
        -- the rows
        have rows : ∀ m1 : am_M, (∀ a, a ≠ T → m1.1 a = w2.1 a) → m1.2 = w2.2 → m1.1 T 2 = opI (endS V P (wetB x) (s + 1)) → am_R shC mi_X9_follow (am_D shC (d - 1)) (fun o => o.1 = none ∧ am_f3 52 T R w o.2 ∧ trOK o.2 T R V P (wetB x)) 58 [(0, .ref T), (1, .ref 52), (2, .int x), (3, .int (nI s))] [] m1 := by
          intro m1 hm1 hm2 hm3
          refine am_go rfl ?_
          refine am_g0 rfl rfl ?_
          refine am_ys hT (am_oi hR ?_)
          iterate 5 refine am_g0 rfl rfl ?_
          refine am_gsE (k := s) rfl hL (show (0 : Int32) + nI s = nI s from Int32.zero_add _) (by omega) (by decide) ?_
          refine am_to (lv' := [(0, .ref T), (1, .ref 52), (2, .int x), (3, .int (nI s))]) (st' := []) (w' := am_pi m1 R s (m1.1 52 7)) rfl rfl rfl ?_
          iterate 2 refine am_g0 rfl rfl ?_
          refine am_ys hT (am_oi hR ?_)
          iterate 5 refine am_g0 rfl rfl ?_
          refine am_gsE (k := 30 + s) rfl hL (nI_add 30 s) (by omega) (by decide) ?_
          refine am_to (lv' := [(0, .ref T), (1, .ref 52), (2, .int x), (3, .int (nI s))]) (st' := []) (w' := am_pi (am_pi m1 R s (m1.1 52 7)) R (30 + s) ((am_pi m1 R s (m1.1 52 7)).1 52 8)) rfl rfl rfl ?_
          generalize hm4 : am_pi (am_pi m1 R s (m1.1 52 7)) R (30 + s) ((am_pi m1 R s (m1.1 52 7)).1 52 8) = m4
          iterate 2 refine am_g0 rfl rfl ?_
          refine am_ys hT (am_oi hR ?_)
          iterate 5 refine am_g0 rfl rfl ?_
          refine am_gsE (k := 60 + s) rfl hL (nI_add 60 s) (by omega) (by decide) ?_
          refine am_to (lv' := [(0, .ref T), (1, .ref 52), (2, .int x), (3, .int (nI s))]) (st' := []) (w' := am_pi m4 R (60 + s) (m4.1 52 9)) rfl rfl rfl ?_
          iterate 2 refine am_g0 rfl rfl ?_
          refine am_ys hT (am_oi hR ?_)
          iterate 5 refine am_g0 rfl rfl ?_
          refine am_gsE (k := 90 + s) rfl hL (nI_add 90 s) (by omega) (by decide) ?_
          refine am_to (lv' := [(0, .ref T), (1, .ref 52), (2, .int x), (3, .int (nI s))]) (st' := []) (w' := am_pi (am_pi m4 R (60 + s) (m4.1 52 9)) R (90 + s) ((am_pi m4 R (60 + s) (m4.1 52 9)).1 52 12)) rfl rfl rfl ?_
          iterate 2 refine am_g0 rfl rfl ?_
          have h52 : ∀ (m : am_M) (k : Nat) (y : Int32), (am_pi m R k y).1 52 = m.1 52 := fun m k y => am_pi_row (Ne.symm hR2)
          have m452 : m4.1 52 = m1.1 52 := by rw [← hm4, h52, h52]
          have m152 : m1.1 52 = w2.1 52 := hm1 52 (Ne.symm hT2)
          have := ih (s + 1) (by omega) (am_pi (am_pi m4 R (60 + s) (m4.1 52 9)) R (90 + s) ((am_pi m4 R (60 + s) (m4.1 52 9)).1 52 12)) ?_ ?_ ?_ ?_ ?_
          · rw [← nI_1] at this
            exact this
          · refine ⟨fun k h1 h2 h3 => ?_, ?_⟩
            · rw [am_pi_row h3, am_pi_row h3, ← hm4, am_pi_row h3, am_pi_row h3, hm1 k h2, f2.1 k h1]
              exact hf.1 k h1 h2 h3
            · show m4.2 = w.2
              rw [← hm4]
              exact hm2.trans (f2.2.trans hf.2)
          · rw [h52, h52, m452, m152]; exact g3
          · exact ⟨_, by rw [h52, h52, m452, m152]; exact g4⟩
          · have hx7 : m1.1 52 7 = plc (lifeQ V P (wetB x) (s + 1)) := by rw [m152]; exact g4.1
            have hx8 : (am_pi m1 R s (m1.1 52 7)).1 52 8 = nI (lifeQ V P (wetB x) (s + 1)).2.1 := by rw [h52, m152]; exact hst
            have hx9 : m4.1 52 9 = nI (lifeQ V P (wetB x) (s + 1)).2.2.1 := by rw [m452, m152]; exact g4.2.2.1
            have hx12 : (am_pi m4 R (60 + s) (m4.1 52 9)).1 52 12 = wbI (lifeB V P (wetB x) s) := by rw [h52, m452, m152]; exact g4.2.2.2.2.2
            rw [hx12, hx9, ← hm4, hx8, hx7]
            intro i hi
            have base : ∀ k, m1.1 R k = m.1 R k := fun k => by rw [hm1 R (Ne.symm hTR), f2.1 R hR2]
            by_cases his : i = s
            · subst his
              refine ⟨?_, ?_, ?_, ?_⟩
              · rw [am_pi_ne (Or.inr (by omega)), am_pi_ne (Or.inr (by omega)), am_pi_ne (Or.inr (by omega)), am_pi_at]
              · rw [am_pi_ne (Or.inr (by omega)), am_pi_ne (Or.inr (by omega)), am_pi_at]
              · rw [am_pi_ne (Or.inr (by omega)), am_pi_at]
              · rw [am_pi_at]
            · obtain ⟨r1, r2, r3, r4⟩ := hr i (by omega)
              refine ⟨?_, ?_, ?_, ?_⟩
              · rw [am_pi_ne (Or.inr (by omega)), am_pi_ne (Or.inr (by omega)), am_pi_ne (Or.inr (by omega)), am_pi_ne (Or.inr (by omega)), base]; exact r1
              · rw [am_pi_ne (Or.inr (by omega)), am_pi_ne (Or.inr (by omega)), am_pi_ne (Or.inr (by omega)), am_pi_ne (Or.inr (by omega)), base]; exact r2
              · rw [am_pi_ne (Or.inr (by omega)), am_pi_ne (Or.inr (by omega)), am_pi_ne (Or.inr (by omega)), am_pi_ne (Or.inr (by omega)), base]; exact r3
              · rw [am_pi_ne (Or.inr (by omega)), am_pi_ne (Or.inr (by omega)), am_pi_ne (Or.inr (by omega)), am_pi_ne (Or.inr (by omega)), base]; exact r4
          · rw [am_pi_ne (Or.inl hTR), am_pi_ne (Or.inl hTR), ← hm4, am_pi_ne (Or.inl hTR), am_pi_ne (Or.inl hTR)]
            exact hm3
        refine am_to (lv' := [(0, .ref T), (1, .ref 52), (2, .int x), (3, .int (nI s)), (4, .int (if (lifeQ V P (wetB x) s).2.1 = 0 then 1 else 0))]) (st' := []) (w' := w2) rfl rfl rfl ?_
        have hT2w : w2.1 T 2 = m.1 T 2 := by rw [f2.1 T hT2]
        by_cases hz : (lifeQ V P (wetB x) s).2.1 = 0
        · rw [if_pos hz]
          iterate 5 refine am_g0 rfl rfl ?_
          by_cases hz2 : (lifeQ V P (wetB x) (s + 1)).2.1 = 0
          · refine am_tt (show w2.1 52 8 = 0 by rw [hst, hz2]; rfl) ?_
            refine am_kl (rows w2 (fun _ _ => rfl) rfl ?_) rfl
            rw [hT2w, he, endS, if_neg (fun z => z.2 hz2)]
          · refine am_ff (show ¬ w2.1 52 8 = 0 by rw [hst]; exact nI_ne0 (by omega) (by omega)) ?_
            iterate 3 refine am_g0 rfl rfl ?_
            refine am_ys (show (am_isb shC T 9 && true) = true by rw [hT]; rfl) ?_
            refine am_kl (rows (am_pi w2 T 2 (nI s)) (fun a ha => am_pi_row ha) rfl ?_) rfl
            rw [am_pi_at, endS, if_pos ⟨hz, hz2⟩]
            rfl
        · rw [if_neg hz]
          iterate 2 refine am_g0 rfl rfl ?_
          refine am_kl (rows w2 (fun _ _ => rfl) rfl ?_) rfl
          rw [hT2w, he, endS, if_neg (fun z => hz z.1)]
      have hs8 : m.1 52 8 = nI (lifeQ V P (wetB x) s).2.1 := hq.2.1
      by_cases hz : (lifeQ V P (wetB x) s).2.1 = 0
      · rw [if_pos hz] at mid1
        refine am_tt (show m.1 52 8 = 0 by rw [hs8, hz]; rfl) ?_
        iterate 2 refine am_g0 rfl rfl ?_
        exact mid1
      · rw [if_neg hz] at mid1
        refine am_ff (show ¬ m.1 52 8 = 0 by rw [hs8]; exact nI_ne0 (by omega) (by have := hqo.1; omega)) ?_
        refine am_go rfl ?_
        exact mid1
  refine am_kl (key 30 0 (by omega) (am_pi w1 T 2 (-1)) ⟨fun k h1 h2 h3 => (am_pi_row h2).trans (f1.1 k h1), f1.2⟩ ?_ ?_ (fun s hs => absurd hs (Nat.not_lt_zero s)) (am_pi_at _ _ _ _)) rfl
  · rw [am_pi_row (Ne.symm hT2)]; exact g1
  · exact ⟨none, by rw [am_pi_row (Ne.symm hT2)]; exact g2⟩
