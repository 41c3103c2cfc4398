/-! wore, ask: the class -/
/-- wears another last on a foot -/
def prF (P : Pr) (f l : Nat) : Pr := if f = 0 then prW P l P.2.2.1 else prW P P.2.1 l
def woreA (S : Sp) (p f l : Nat) : Bool := holdA S (fun k s => cellI S.V (if k = p then prF (prS S.pf p) f l else prS S.pf k) (wet0 S) s)
def woreQ (S : Sp) (x y : Int32) : Int32 := match dI x S.q, dI y 2 with
  | some p, some f => bitsS (woreA S p f) 8
  | _, _ => -2
/-- all that was seen of others comes out so -/
def othB (S : Sp) (p : Nat) : Bool := allB (fun k => decide (k = p) || holdS S.sn S.st S.pe S.ce k (fun s => cellI S.V (prS S.pf k) (wet0 S) s)) S.q && allB (fun i => decide (S.pe i < S.q)) S.sn
theorem woreA_eq {S : Sp} {p f l : Nat} (hp : p < S.q) : woreA S p f l = (othB S p && holdS S.sn S.st S.pe S.ce p (fun s => cellI S.V (prF (prS S.pf p) f l) (wet0 S) s)) := by
  unfold woreA holdA othB
  apply Bool.eq_iff_iff.mpr
  simp only [Bool.and_eq_true]
  constructor
  · intro ⟨h1, h2⟩
    rw [allB_t] at h2
    refine ⟨⟨allB_t.mpr (fun k hk => ?_), h1⟩, ?_⟩
    · by_cases e : k = p
      · rw [decide_eq_true e]; rfl
      · have := h2 k hk
        rw [if_neg e] at this
        rw [this, Bool.or_true]
    · have := h2 p hp
      rw [if_pos rfl] at this
      exact this
  · intro ⟨⟨h1, h2⟩, h3⟩
    rw [allB_t] at h1
    refine ⟨h2, allB_t.mpr (fun k hk => ?_)⟩
    by_cases e : k = p
    · rw [if_pos e, e]; exact h3
    · have := h1 k hk
      rw [decide_eq_false e, Bool.false_or] at this
      rw [if_neg e]; exact this
theorem bitsS_0 {f : Nat → Bool} : ∀ {n : Nat}, (∀ i, i < n → f i = false) → bitsS f n = 0
  | 0, _ => rfl
  | n + 1, h => by rw [bitsS, h n (by omega), if_neg (by decide)]; exact bitsS_0 (fun i hi => h i (by omega))
theorem bitsS_t {f : Nat → Bool} {n : Nat} (h : f n = true) : bitsS f (n + 1) = bitsS f n ||| ((1 : Int32) <<< (nI n &&& 31)) := by rw [bitsS, if_pos h]
theorem bitsS_f {f : Nat → Bool} {n : Nat} (h : f n = false) : bitsS f (n + 1) = bitsS f n := by rw [bitsS, h]; rfl
theorem ix30 (a b : Nat) : nI a * 30 + nI b = nI (a * 30 + b) := by rw [show (30 : Int32) = nI 30 from rfl, pk_mul, nI_add]
theorem d_others {d p : Nat} {w : am_M} {S : Sp} (hd : 4 ≤ d) (h : RC w S) (g : ∀ p, p < S.q → trOK w (34 + p) (42 + p) S.V (prS S.pf p) (wet0 S)) (hp : p < S.q) : am_D shC d mi_X11_othersHold [.ref 0, .int (nI p)] w (some (.int (b01 (othB S p))), w) := by
  have hq := h.q8
  refine am_def (by omega) rfl rfl ?_
  iterate 2 refine am_g0 rfl rfl ?_
  have key : ∀ j i : Nat, i + j = S.q → (∀ k, k < i → (decide (k = p) || holdS S.sn S.st S.pe S.ce k (fun s => cellI S.V (prS S.pf k) (wet0 S) s)) = true) → am_R shC mi_X11_othersHold (am_D shC (d - 1)) (fun r => r = (some (.int (b01 (othB S p))), w)) 2 [(0, .ref 0), (1, .int (nI p)), (2, .int (nI i))] [] w := by
    intro j
    induction j with
    | zero =>
      intro i hi hf
      refine am_go rfl ?_
      iterate 4 refine am_g0 rfl rfl ?_
      refine am_tt (show (w.1 16 1 : Int32) ≤ (nI i) from by rw [h.1.P.1]; exact nI_le (by omega) (by omega)) ?_
      refine am_go rfl ?_
      iterate 4 refine am_g0 rfl rfl ?_
      refine am_top (y := nI S.q) (h.1.P.1) ?_
      refine am_g0 rfl rfl ?_
      refine ⟨(some (.int (b01 (!allB (fun i => decide (S.pe i < S.q)) S.sn))), w), d_haveNobody (by omega) h.seen hq, ?_⟩
      refine am_to (lv' := [(0, .ref 0)]) (st' := [.int (b01 (!allB (fun i => decide (S.pe i < S.q)) S.sn))]) (w' := w) rfl rfl rfl ?_
      refine am_g0 rfl rfl ?_
      have e : othB S p = allB (fun i => decide (S.pe i < S.q)) S.sn := by unfold othB; rw [allB_t.mpr (fun k hk => hf k (by omega))]; rfl
      rw [e]
      cases h0 : allB (fun i => decide (S.pe i < S.q)) S.sn with
      | false =>
        refine am_go rfl ?_
        refine am_go rfl ?_
        exact ⟨rfl, rfl⟩
      | true =>
        iterate 2 refine am_g0 rfl rfl ?_
        refine am_go rfl ?_
        exact ⟨rfl, rfl⟩
    | succ j ih =>
      intro i hi hf
      obtain ⟨t1, t2, t3, t4⟩ := sh_Tr i (by omega)
      refine am_go rfl ?_
      iterate 4 refine am_g0 rfl rfl ?_
      refine am_ff (show ¬ (w.1 16 1 : Int32) ≤ (nI i) from by rw [h.1.P.1]; exact nI_ge (by omega) (by omega)) ?_
      iterate 3 refine am_g0 rfl rfl ?_
      by_cases e : i = p
      · refine am_tt (show (nI i : Int32) = (nI p) from by rw [e]) ?_
        refine am_go rfl ?_
        refine am_g0 rfl rfl ?_
        have this := ih (i + 1) (by omega) (fun k hk => if z : k = i then by rw [z, decide_eq_true e]; rfl else hf k (by omega))
        rw [← nI_1] at this
        exact am_kl this rfl
      · refine am_ff (show ¬ (nI i : Int32) = (nI p) from nne e (by omega) (by omega)) ?_
        iterate 7 refine am_g0 rfl rfl ?_
        refine am_ff (show ¬ nI i < 0 from nI_pos (by omega)) (am_oi (a := 34 + i) (by rw [nI_clamp (by omega)]; exact t4) ?_)
        refine am_g0 rfl rfl ?_
        refine ⟨(some (.int (b01 (holdS S.sn S.st S.pe S.ce i (fun s => cellI S.V (prS S.pf i) (wet0 S) s)))), w), by rw [← hold_congr (F := w.1 (42 + i)) (G := fun s => cellI S.V (prS S.pf i) (wet0 S) s) h.s30 (fun s hs => ((g i (by omega)).1 s hs).1)]; exact d_holdFor (by omega) h.seen (by omega) t1 t2 t3, ?_⟩
        refine am_to (lv' := [(0, .ref 0), (1, .int (nI p)), (2, .int (nI i))]) (st' := [.int (b01 (holdS S.sn S.st S.pe S.ce i (fun s => cellI S.V (prS S.pf i) (wet0 S) s)))]) (w' := w) rfl rfl rfl ?_
        refine am_g0 rfl rfl ?_
        cases h2 : holdS S.sn S.st S.pe S.ce i (fun s => cellI S.V (prS S.pf i) (wet0 S) s) with
        | false =>
          iterate 2 refine am_g0 rfl rfl ?_
          refine ⟨rfl, ?_⟩
          unfold othB
          rw [allB_f (i := i) (by omega) (by rw [decide_eq_false e, h2]; rfl)]
          rfl
        | true =>
          refine am_go rfl ?_
          refine am_g0 rfl rfl ?_
          have this := ih (i + 1) (by omega) (fun k hk => if z : k = i then by rw [z, h2, Bool.or_true] else hf k (by omega))
          rw [← nI_1] at this
          exact am_kl this rfl
  exact am_kl (key S.q 0 (by omega) (fun k hk => absurd hk (Nat.not_lt_zero k))) rfl
set_option maxHeartbeats 1000000 in
theorem d_findWore {d p f : Nat} {w : am_M} {S : Sp} (hd : 5 ≤ d) (h : RC w S) (g : ∀ p, p < S.q → trOK w (34 + p) (42 + p) S.V (prS S.pf p) (wet0 S)) (hp : p < S.q) (hf : f < 2) : ∃ o : am_O, (o.1 = some (.int (bitsS (woreA S p f) 8)) ∧ am_sc w o.2 ∧ ((∀ l, l < 8 → woreA S p f l = false) ∨ ∀ l, l < 8 → ∀ s, s < 30 → o.2.1 71 (l * 30 + s) = cellI S.V (prF (prS S.pf p) f l) (wet0 S) s)) ∧ am_D shC d mi_X11_findWore [.ref 0, .int (nI p), .int (nI f)] w o := by
  have hq := h.q8
  have hok := h.1.P.ok hp
  refine am_dex (by omega) rfl rfl ?_
  iterate 3 refine am_g0 rfl rfl ?_
  refine ⟨(some (.int (b01 (othB S p))), w), d_others (by omega) h g hp, ?_⟩
  refine am_to (lv' := [(0, .ref 0), (1, .int (nI p)), (2, .int (nI f))]) (st' := [.int (b01 (othB S p))]) (w' := w) rfl rfl rfl ?_
  refine am_g0 rfl rfl ?_
  cases h0 : othB S p with
  | false =>
    iterate 2 refine am_g0 rfl rfl ?_
    have e : ∀ l, l < 8 → woreA S p f l = false := fun l hl => by rw [woreA_eq hp, h0]; rfl
    exact ⟨rfl, by rw [bitsS_0 e], am_sc.rf, Or.inl e⟩
  | true =>
    refine am_go rfl ?_
    iterate 4 refine am_g0 rfl rfl ?_
    refine ⟨(some (.int (wetF (w.1 19) (-1) (-1) S.rn)), w), d_wetSteps (by omega) h.1.1.2.1.1 h.1.2.2.2.2.2.1.1, ?_⟩
    refine am_to (lv' := [(0, .ref 0), (1, .int (nI p)), (2, .int (nI f))]) (st' := [.int (wetF (w.1 19) (-1) (-1) S.rn)]) (w' := w) rfl rfl rfl ?_
    have hwet := h.wet
    generalize wetF (w.1 19) (-1) (-1) S.rn = x at hwet ⊢
    iterate 5 refine am_g0 rfl rfl ?_
    have key : ∀ j i : Nat, i + j = 8 → ∀ m : am_M, am_sc w m → (∀ l, l < i → ∀ s, s < 30 → m.1 71 (l * 30 + s) = cellI S.V (prF (prS S.pf p) f l) (wet0 S) s) → am_R shC mi_X11_findWore (am_D shC (d - 1)) (fun o => (o.1 = some (.int (bitsS (woreA S p f) 8)) ∧ am_sc w o.2 ∧ ((∀ l, l < 8 → woreA S p f l = false) ∨ ∀ l, l < 8 → ∀ s, s < 30 → o.2.1 71 (l * 30 + s) = cellI S.V (prF (prS S.pf p) f l) (wet0 S) s))) 26 [(0, .ref 0), (1, .int (nI p)), (2, .int (nI f)), (3, .int x), (4, .int (bitsS (woreA S p f) i)), (5, .int (nI i))] [] m := by
      intro j
      induction j with
      | zero =>
        intro i hi m hm ht
        refine am_go rfl ?_
        iterate 2 refine am_g0 rfl rfl ?_
        refine am_tt (show (8 : Int32) ≤ (nI i) from nI_le (a := 8) (by omega) (by omega)) ?_
        refine am_go rfl ?_
        refine am_g0 rfl rfl ?_
        refine ⟨rfl, by rw [show i = 8 by omega], hm, Or.inr (fun l hl => ht l (by omega))⟩
      | succ j ih =>
        intro i hi m hm ht
        have r0 := h.sc hm
        have eW : woreA S p f i = holdS S.sn S.st S.pe S.ce p (fun s => cellI S.V (prF (prS S.pf p) f i) (wet0 S) s) := by rw [woreA_eq hp, h0]; rfl
        have hPok : Pok (prF (prS S.pf p) f i) := by
          unfold prF
          split
          · exact ⟨hok.1, by show i < 8; omega, hok.2.2.1, hok.2.2.2.1, hok.2.2.2.2⟩
          · exact ⟨hok.1, hok.2.1, by show i < 8; omega, hok.2.2.2.1, hok.2.2.2.2⟩
        have go : ∀ v : am_M, am_sc w v → wkP (v.1 52) (prF (prS S.pf p) f i) → v.1 71 = m.1 71 → am_R shC mi_X11_findWore (am_D shC (d - 1)) (fun o => (o.1 = some (.int (bitsS (woreA S p f) 8)) ∧ am_sc w o.2 ∧ ((∀ l, l < 8 → woreA S p f l = false) ∨ ∀ l, l < 8 → ∀ s, s < 30 → o.2.1 71 (l * 30 + s) = cellI S.V (prF (prS S.pf p) f l) (wet0 S) s))) 70 [(0, .ref 0), (1, .int (nI p)), (2, .int (nI f)), (3, .int x), (4, .int (bitsS (woreA S p f) i)), (5, .int (nI i))] [] v := by
          intro v hv hPv h71
          have rv := h.sc hv
          refine am_go rfl ?_
          iterate 5 refine am_g0 rfl rfl ?_
          obtain ⟨⟨r2, w2⟩, ⟨e2, f2', g2⟩, hD2⟩ := d_follow (d := d - 1) (T := 50) (R := 51) (x := x) (by omega) rfl rfl rfl (by omega) (by omega) (by omega) (by omega) (by omega) rv.1.V hPv hPok
          dsimp only at e2 f2' g2
          subst e2
          have g3 := g2.congr hwet
          have f2 : am_sc v w2 := ⟨fun a ha => f2'.1 a (fun z => ha (by unfold scr; omega)) (fun z => ha (by unfold scr; omega)) (fun z => ha (by unfold scr; omega)), f2'.2⟩
          refine ⟨(none, w2), hD2, ?_⟩
          refine am_to (lv' := [(0, .ref 0), (1, .int (nI p)), (2, .int (nI f)), (3, .int x), (4, .int (bitsS (woreA S p f) i)), (5, .int (nI i))]) (st' := []) (w' := w2) rfl rfl rfl ?_
          iterate 2 refine am_g0 rfl rfl ?_
          have key2 : ∀ j s : Nat, s + j = 30 → ∀ m : am_M, am_sc w m → m.1 51 = w2.1 51 → (∀ l, l < i → ∀ s, s < 30 → m.1 71 (l * 30 + s) = cellI S.V (prF (prS S.pf p) f l) (wet0 S) s) → (∀ k, k < s → m.1 71 (i * 30 + k) = cellI S.V (prF (prS S.pf p) f i) (wet0 S) k) → am_R shC mi_X11_findWore (am_D shC (d - 1)) (fun o => (o.1 = some (.int (bitsS (woreA S p f) 8)) ∧ am_sc w o.2 ∧ ((∀ l, l < 8 → woreA S p f l = false) ∨ ∀ l, l < 8 → ∀ s, s < 30 → o.2.1 71 (l * 30 + s) = cellI S.V (prF (prS S.pf p) f l) (wet0 S) s))) 85 [(0, .ref 0), (1, .int (nI p)), (2, .int (nI f)), (3, .int x), (4, .int (bitsS (woreA S p f) i)), (5, .int (nI i)), (6, .int (nI s))] [] m := by
            intro j
            induction j with
            | zero =>
              intro s hs m hm h51 ht hk
              have r0 := h.sc hm
              refine am_go rfl ?_
              iterate 2 refine am_g0 rfl rfl ?_
              refine am_tt (show (30 : Int32) ≤ (nI s) from nI_le (a := 30) (by omega) (by omega)) ?_
              refine am_go rfl ?_
              iterate 5 refine am_g0 rfl rfl ?_
              refine ⟨(some (.int (b01 (woreA S p f i))), m), by rw [eW, ← hold_congr (F := m.1 51) (G := fun s => cellI S.V (prF (prS S.pf p) f i) (wet0 S) s) h.s30 (fun s hs => by rw [h51]; exact (g3.1 s hs).1)]; exact d_holdFor (by omega) r0.seen (by omega) rfl rfl rfl, ?_⟩
              refine am_to (lv' := [(0, .ref 0), (1, .int (nI p)), (2, .int (nI f)), (3, .int x), (4, .int (bitsS (woreA S p f) i)), (5, .int (nI i))]) (st' := [.int (b01 (woreA S p f i))]) (w' := m) rfl rfl rfl ?_
              refine am_g0 rfl rfl ?_
              have this := ih (i + 1) (by omega) m hm (fun l hl s hs => if z : l = i then by rw [z]; exact hk s (by omega) else ht l (by omega) s hs)
              cases h2 : woreA S p f i with
              | false =>
                refine am_go rfl ?_
                refine am_g0 rfl rfl ?_
                rw [bitsS_f h2, ← nI_1 i] at this
                exact am_kl this rfl
              | true =>
                iterate 6 refine am_g0 rfl rfl ?_
                refine am_go rfl ?_
                refine am_g0 rfl rfl ?_
                rw [bitsS_t h2, ← nI_1 i] at this
                exact am_kl this rfl
            | succ j ih2 =>
              intro s hs m hm h51 ht hk
              refine am_go rfl ?_
              iterate 2 refine am_g0 rfl rfl ?_
              refine am_ff (show ¬ (30 : Int32) ≤ (nI s) from nI_ge (b := 30) (by omega) (by omega)) ?_
              iterate 12 refine am_g0 rfl rfl ?_
              refine ⟨(some (.int (m.1 51 s)), m), by have := d_ttold (V := S.V) (P := prS S.pf p) (wet := wet0 S) (T := 50) (R := 51) (s := s) (j := 0) (w := m) (d := d - 1) (by omega) rfl rfl rfl (by omega) (by omega); rw [Nat.zero_mul, Nat.zero_add] at this; exact this, ?_⟩
              refine am_to (lv' := [(0, .ref 0), (1, .int (nI p)), (2, .int (nI f)), (3, .int x), (4, .int (bitsS (woreA S p f) i)), (5, .int (nI i)), (6, .int (nI s))]) (st' := [.int (m.1 51 s), .int (((nI i) * 30) + (nI s)), .ref 71]) (w' := m) rfl rfl rfl ?_
              refine am_gsE (n := 240) (k := i * 30 + s) rfl rfl (ix30 i s) (by omega) (by decide) ?_
              refine am_to (lv' := [(0, .ref 0), (1, .int (nI p)), (2, .int (nI f)), (3, .int x), (4, .int (bitsS (woreA S p f) i)), (5, .int (nI i)), (6, .int (nI s))]) (st' := []) (w' := am_pi m 71 (i * 30 + s) (m.1 51 s)) rfl rfl rfl ?_
              iterate 2 refine am_g0 rfl rfl ?_
              have hcl : m.1 51 s = cellI S.V (prF (prS S.pf p) f i) (wet0 S) s := by rw [h51]; exact (g3.1 s (by omega)).1
              have this := ih2 (s + 1) (by omega) (am_pi m 71 (i * 30 + s) (m.1 51 s)) (hm.pi (Or.inr (Or.inr rfl))) (by rw [am_pi_row (by omega)]; exact h51) (fun l hl s' hs' => by rw [am_pi_ne (Or.inr (by omega))]; exact ht l hl s' hs') (fun k hk' => if z : k = s then by rw [z, am_pi_at]; exact hcl else by rw [am_pi_ne (Or.inr (by omega))]; exact hk k (by omega))
              rw [← nI_1] at this
              exact am_kl this rfl
          exact am_kl (key2 30 0 (by omega) w2 (hv.tr f2) rfl (fun l hl s hs => by rw [f2'.1 71 (by omega) (by omega) (by omega), h71]; exact ht l hl s hs) (fun k hk => absurd hk (Nat.not_lt_zero k))) rfl
        refine am_go rfl ?_
        iterate 2 refine am_g0 rfl rfl ?_
        refine am_ff (show ¬ (8 : Int32) ≤ (nI i) from nI_ge (b := 8) (by omega) (by omega)) ?_
        iterate 6 refine am_g0 rfl rfl ?_
        obtain ⟨⟨r1, w1⟩, ⟨e1, f1, g1⟩, hD1⟩ := d_wearR (d := d - 1) (by omega) r0 hp
        dsimp only at e1 f1 g1
        subst e1
        refine ⟨(none, w1), hD1, ?_⟩
        refine am_to (lv' := [(0, .ref 0), (1, .int (nI p)), (2, .int (nI f)), (3, .int x), (4, .int (bitsS (woreA S p f) i)), (5, .int (nI i))]) (st' := []) (w' := w1) rfl rfl rfl ?_
        iterate 2 refine am_g0 rfl rfl ?_
        by_cases hf0 : f = 0
        · refine am_tt (show (nI f : Int32) = 0 from by rw [hf0]; rfl) ?_
          iterate 5 refine am_g0 rfl rfl ?_
          refine am_kl (go (am_pi w1 52 3 (nI i)) ((hm.tr (am_sc.of f1 scr52)).pi scr52) ?_ ?_) rfl
          · unfold prF
            rw [if_pos hf0]
            exact ⟨g1.1, rfl, g1.2.2.1, g1.2.2.2.1, g1.2.2.2.2⟩
          · rw [am_pi_row (by omega)]; exact f1.1 71 (by omega)
        · refine am_ff (show ¬ (nI f : Int32) = 0 from nne (b := 0) hf0 (by omega) (by omega)) ?_
          refine am_go rfl ?_
          iterate 3 refine am_g0 rfl rfl ?_
          refine am_kl (go (am_pi w1 52 4 (nI i)) ((hm.tr (am_sc.of f1 scr52)).pi scr52) ?_ ?_) rfl
          · unfold prF
            rw [if_neg hf0]
            exact ⟨g1.1, g1.2.1, rfl, g1.2.2.2.1, g1.2.2.2.2⟩
          · rw [am_pi_row (by omega)]; exact f1.1 71 (by omega)
    exact am_kl (key 8 0 (by omega) w am_sc.rf (fun l hl => absurd hl (Nat.not_lt_zero l))) rfl
theorem d_wore {d : Nat} {x y : Int32} {w : am_M} {S : Sp} (hd : 8 ≤ d) (h : RC w S) : ∃ o : am_O, (o.1 = some (.int (woreQ S x y)) ∧ RC o.2 S) ∧ am_D shC d mi_X11_wore [.ref 0, .int x, .int y] w o := by
  have hq := h.q8
  rcases dI_or x S.q (by omega) with hx | ⟨p, hp, rfl, hx⟩
  · refine am_dex (by omega) rfl rfl ?_
    iterate 4 refine am_g0 rfl rfl ?_
    refine am_top (y := nI S.q) (h.1.P.1) ?_
    refine am_g0 rfl rfl ?_
    refine ⟨(some (.int 0), w), d_isWn shC (by omega) hx, ?_⟩
    refine am_to (lv' := [(0, .ref 0), (1, .int x), (2, .int y)]) (st' := [.int 0]) (w' := w) rfl rfl rfl ?_
    refine am_g0 rfl rfl ?_
    refine am_go rfl ?_
    refine am_g0 rfl rfl ?_
    exact ⟨rfl, by unfold woreQ; rw [hx], h⟩
  · rcases dI_or y 2 (by decide) with hy | ⟨f, hf, rfl, hy⟩
    · refine am_dex (by omega) rfl rfl ?_
      iterate 4 refine am_g0 rfl rfl ?_
      refine am_top (y := nI S.q) (h.1.P.1) ?_
      refine am_g0 rfl rfl ?_
      refine ⟨(some (.int 1), w), d_isWs shC (by omega) hp (by omega), ?_⟩
      refine am_to (lv' := [(0, .ref 0), (1, .int (nI p)), (2, .int y)]) (st' := [.int 1]) (w' := w) rfl rfl rfl ?_
      iterate 4 refine am_g0 rfl rfl ?_
      refine ⟨(some (.int 0), w), d_isWn shC (n := 2) (by omega) hy, ?_⟩
      refine am_to (lv' := [(0, .ref 0), (1, .int (nI p)), (2, .int y)]) (st' := [.int 0]) (w' := w) rfl rfl rfl ?_
      refine am_g0 rfl rfl ?_
      refine am_go rfl ?_
      refine am_g0 rfl rfl ?_
      exact ⟨rfl, by unfold woreQ; rw [hx, hy], h⟩
    · refine am_dex (by omega) rfl rfl ?_
      iterate 4 refine am_g0 rfl rfl ?_
      refine am_top (y := nI S.q) (h.1.P.1) ?_
      refine am_g0 rfl rfl ?_
      refine ⟨(some (.int 1), w), d_isWs shC (by omega) hp (by omega), ?_⟩
      refine am_to (lv' := [(0, .ref 0), (1, .int (nI p)), (2, .int (nI f))]) (st' := [.int 1]) (w' := w) rfl rfl rfl ?_
      iterate 4 refine am_g0 rfl rfl ?_
      refine ⟨(some (.int 1), w), d_isWs shC (n := 2) (by omega) hf (by decide), ?_⟩
      refine am_to (lv' := [(0, .ref 0), (1, .int (nI p)), (2, .int (nI f))]) (st' := [.int 1]) (w' := w) rfl rfl rfl ?_
      refine am_g0 rfl rfl ?_
      refine am_go rfl ?_
      refine am_g0 rfl rfl ?_
      obtain ⟨⟨r1, w1⟩, ⟨e1, g1, g2, g3⟩, hD1⟩ := d_retr (d := d - 1) (by omega) h
      dsimp only at e1 g1 g2 g3
      subst e1
      refine ⟨(none, w1), hD1, ?_⟩
      refine am_to (lv' := [(0, .ref 0), (1, .int (nI p)), (2, .int (nI f))]) (st' := []) (w' := w1) rfl rfl rfl ?_
      iterate 4 refine am_g0 rfl rfl ?_
      obtain ⟨⟨r2, w2⟩, ⟨e2, f2, f3⟩, hD2⟩ := d_findWore (d := d - 1) (by omega) g1 g2 hp hf
      dsimp only at e2 f2 f3
      subst e2
      refine ⟨(some (.int (bitsS (woreA S p f) 8)), w2), hD2, ?_⟩
      refine am_to (lv' := [(0, .ref 0), (1, .int (nI p)), (2, .int (nI f))]) (st' := [.int (bitsS (woreA S p f) 8)]) (w' := w2) rfl rfl rfl ?_
      refine am_g0 rfl rfl ?_
      exact ⟨rfl, by unfold woreQ; rw [hx, hy], g1.sc f2⟩
/-! ask -/
def cntN (g : Nat → Bool) : Nat → Nat
  | 0 => 0
  | n + 1 => if g n then cntN g n + 1 else cntN g n
def mxN (h : Nat → Nat) : Nat → Nat
  | 0 => 0
  | n + 1 => if mxN h n < h n then h n else mxN h n
theorem cntN_le {g : Nat → Bool} : ∀ n, cntN g n ≤ n
  | 0 => Nat.le_refl _
  | n + 1 => by rw [cntN]; have := cntN_le (g := g) n; split <;> omega
theorem cntN_mono {g g' : Nat → Bool} : ∀ {n : Nat}, (∀ k, k < n → g k = true → g' k = true) → cntN g n ≤ cntN g' n
  | 0, _ => Nat.le_refl _
  | n + 1, h => by
    have ih := cntN_mono (g := g) (g' := g') (n := n) (fun k hk => h k (by omega))
    rw [cntN, cntN]
    by_cases z : g n = true
    · rw [if_pos z, if_pos (h n (by omega) z)]; omega
    · rw [if_neg z]; split <;> omega
theorem cntN_congr {g g' : Nat → Bool} {n : Nat} (h : ∀ k, k < n → g k = g' k) : cntN g n = cntN g' n := Nat.le_antisymm (cntN_mono (fun k hk z => by rw [← h k hk]; exact z)) (cntN_mono (fun k hk z => by rw [h k hk]; exact z))
theorem cntN_0 {g : Nat → Bool} : ∀ {n : Nat}, (∀ k, k < n → g k = false) → cntN g n = 0
  | 0, _ => rfl
  | n + 1, h => by rw [cntN, h n (by omega), if_neg (by decide)]; exact cntN_0 (fun k hk => h k (by omega))
theorem cntN_t {g : Nat → Bool} {n : Nat} (h : g n = true) : cntN g (n + 1) = cntN g n + 1 := by rw [cntN, if_pos h]
theorem cntN_f {g : Nat → Bool} {n : Nat} (h : g n = false) : cntN g (n + 1) = cntN g n := by rw [cntN, h]; rfl
theorem mxN_le {h : Nat → Nat} {v : Nat} : ∀ {n : Nat}, (∀ i, i < n → h i ≤ v) → mxN h n ≤ v
  | 0, _ => Nat.zero_le _
  | n + 1, z => by
    have := mxN_le (h := h) (v := v) (n := n) (fun i hi => z i (by omega))
    have := z n (by omega)
    rw [mxN]; split <;> omega
theorem le_mxN {h : Nat → Nat} : ∀ {n i : Nat}, i < n → h i ≤ mxN h n
  | n + 1, i, hi => by
    rw [mxN]
    by_cases e : i = n
    · subst e; split <;> omega
    · have := le_mxN (h := h) (n := n) (i := i) (by omega)
      split <;> omega
theorem mxN_congr {g g' : Nat → Nat} {n : Nat} (h : ∀ k, k < n → g k = g' k) : mxN g n = mxN g' n := by
  induction n with
  | zero => rfl
  | succ n ih => rw [mxN, mxN, ih (fun k hk => h k (by omega)), h n (by omega)]
def crwA (f : Nat → Bool) (t : Nat → Int32) (a : Nat) : Nat := cntN (fun k => decide (a ≤ k) && (f k && decide (t k = t a))) 8
def alkA (f : Nat → Bool) (t : Nat → Int32) (a : Nat) : Nat := cntN (fun k => f a && (f k && decide (t a = t k))) 8
def alkS (f : Nat → Bool) (t : Nat → Int32) : Nat := mxN (alkA f t) 8
theorem crw_alk (f : Nat → Bool) (t : Nat → Int32) : mxN (crwA f t) 8 = alkS f t := by
  apply Nat.le_antisymm
  · apply mxN_le
    intro a ha
    rcases opt_or (firstN (fun k => decide (a ≤ k) && (f k && decide (t k = t a))) 8) with z | ⟨b, z⟩
    · unfold crwA
      rw [cntN_0 (firstN_none z)]
      exact Nat.zero_le _
    · obtain ⟨h1, h2, _⟩ := firstN_s z
      simp only [Bool.and_eq_true, decide_eq_true_eq] at h2
      refine Nat.le_trans ?_ (le_mxN (h := alkA f t) h1)
      apply cntN_mono
      intro k hk hz
      simp only [Bool.and_eq_true, decide_eq_true_eq] at hz ⊢
      exact ⟨h2.2.1, hz.2.1, h2.2.2.trans hz.2.2.symm⟩
  · apply mxN_le
    intro a ha
    cases hfa : f a with
    | false =>
      unfold alkA
      rw [cntN_0 (fun k hk => by rw [hfa]; rfl)]
      exact Nat.zero_le _
    | true =>
      rcases opt_or (firstN (fun k => f k && decide (t k = t a)) 8) with z | ⟨b, z⟩
      · have := firstN_none z a ha
        rw [hfa, decide_eq_true rfl] at this
        cases this
      · obtain ⟨h1, h2, h3⟩ := firstN_s z
        simp only [Bool.and_eq_true, decide_eq_true_eq] at h2
        refine Nat.le_trans ?_ (le_mxN (h := crwA f t) h1)
        apply cntN_mono
        intro k hk hz
        simp only [Bool.and_eq_true, decide_eq_true_eq] at hz ⊢
        refine ⟨Decidable.byContradiction fun q => ?_, hz.2.1, hz.2.2.symm.trans h2.2.symm⟩
        have := h3 k (by omega)
        rw [hz.2.1, decide_eq_true hz.2.2.symm] at this
        cases this
theorem alkS_congr {f : Nat → Bool} {t t' : Nat → Int32} (h : ∀ l, l < 8 → f l = true → t l = t' l) : alkS f t = alkS f t' := by
  unfold alkS
  apply mxN_congr
  intro a ha
  unfold alkA
  apply cntN_congr
  intro b hb
  cases h1 : f a with
  | false => rfl
  | true =>
    cases h2 : f b with
    | false => rfl
    | true => rw [h a ha h1, h b hb h2]
theorem alkS_le (f : Nat → Bool) (t : Nat → Int32) : alkS f t ≤ 8 := mxN_le (fun i _ => cntN_le 8)
theorem d_bit (sh : List am_S) {d l : Nat} {x : Int32} {b : Bool} {w : am_M} (hd : 1 ≤ d) (h : wetB x l = b) : am_D sh d mi_X11_isBitOf [.int x, .int (nI l)] w (some (.int (b01 b)), w) := by
  have this := d_isBitOf sh hd x (nI l) w
  have e : (if (x >>> (nI l &&& 31)) &&& 1 = 0 then (0 : Int32) else 1) = b01 b := by
    rw [← h]
    unfold wetB b01
    by_cases z : (x >>> (nI l &&& 31)) &&& 1 = 0
    · rw [if_pos z, decide_eq_true z]; rfl
    · rw [if_neg z, decide_eq_false z]; rfl
  rw [e] at this
  exact this
theorem nI_mx {a b : Nat} (ha : a < 2 ^ 31) (hb : b < 2 ^ 31) : (if nI a < nI b then nI b else nI a) = nI (if a < b then b else a) := by
  by_cases z : a < b
  · rw [if_pos z, if_pos ((nI_ltI ha hb).mpr z)]
  · rw [if_neg z, if_neg (fun q => z ((nI_ltI ha hb).mp q))]
theorem d_crowd {d s : Nat} {x : Int32} {w : am_M} {f : Nat → Bool} (hd : 2 ≤ d) (hs : s < 30) (hx : ∀ l, l < 8 → wetB x l = f l) : am_D shC d mi_X11_greatestCrowd [.ref 0, .int (nI s), .int x] w (some (.int (nI (alkS f (fun l => w.1 71 (l * 30 + s))))), w) := by
  rw [← crw_alk]
  have hG8 : ∀ a, crwA f (fun l => w.1 71 (l * 30 + s)) a ≤ 8 := fun a => cntN_le 8
  have hGe : ∀ a, crwA f (fun l => w.1 71 (l * 30 + s)) a = cntN (fun k => decide (a ≤ k) && (f k && decide (w.1 71 (k * 30 + s) = w.1 71 (a * 30 + s)))) 8 := fun a => rfl
  generalize crwA f (fun l => w.1 71 (l * 30 + s)) = G at hG8 hGe ⊢
  have hM8 : ∀ n, mxN G n ≤ 8 := fun n => mxN_le (fun i _ => hG8 i)
  refine am_def (by omega) rfl rfl ?_
  iterate 4 refine am_g0 rfl rfl ?_
  have key : ∀ j a : Nat, a + j = 8 → am_R shC mi_X11_greatestCrowd (am_D shC (d - 1)) (fun r => r = (some (.int (nI (mxN G 8))), w)) 5 [(0, .ref 0), (1, .int (nI s)), (2, .int x), (3, .int (nI (mxN G a))), (4, .int (nI a))] [] w := by
    intro j
    induction j with
    | zero =>
      intro a ha
      refine am_go rfl ?_
      iterate 2 refine am_g0 rfl rfl ?_
      refine am_tt (show (8 : Int32) ≤ (nI a) from nI_le (a := 8) (by omega) (by omega)) ?_
      refine am_go rfl ?_
      refine am_g0 rfl rfl ?_
      exact ⟨rfl, by rw [show a = 8 by omega]⟩
    | succ j ih =>
      intro a ha
      refine am_go rfl ?_
      iterate 2 refine am_g0 rfl rfl ?_
      refine am_ff (show ¬ (8 : Int32) ≤ (nI a) from nI_ge (b := 8) (by omega) (by omega)) ?_
      iterate 7 refine am_g0 rfl rfl ?_
      refine am_glE (n := 240) (k := a * 30 + s) rfl rfl (ix30 a s) (by omega) (by decide) ?_
      iterate 5 refine am_g0 rfl rfl ?_
      obtain ⟨g, hg⟩ : ∃ g : Nat → Bool, g = fun k => decide (a ≤ k) && (f k && decide (w.1 71 (k * 30 + s) = w.1 71 (a * 30 + s))) := ⟨_, rfl⟩
      have key2 : ∀ j o : Nat, o + j = 8 → a ≤ o → am_R shC mi_X11_greatestCrowd (am_D shC (d - 1)) (fun r => r = (some (.int (nI (mxN G 8))), w)) 33 [(0, .ref 0), (1, .int (nI s)), (2, .int x), (3, .int (nI (mxN G a))), (4, .int (nI a)), (5, .int (w.1 71 (a * 30 + s))), (6, .int (nI (cntN g o))), (7, .int (nI o))] [] w := by
        intro j
        induction j with
        | zero =>
          intro o ho hao
          refine am_go rfl ?_
          iterate 2 refine am_g0 rfl rfl ?_
          refine am_tt (show (8 : Int32) ≤ (nI o) from nI_le (a := 8) (by omega) (by omega)) ?_
          refine am_go rfl ?_
          iterate 2 refine am_g0 rfl rfl ?_
          have := hM8 a
          have := cntN_le (g := g) o
          refine am_top (y := nI (mxN G (a + 1))) (by rw [nI_mx (by omega) (by omega), mxN, hGe a, ← hg, show o = 8 by omega]) ?_
          iterate 3 refine am_g0 rfl rfl ?_
          have this := ih (a + 1) (by omega)
          rw [← nI_1] at this
          exact am_kl this rfl
        | succ j ih2 =>
          intro o ho hao
          have this := ih2 (o + 1) (by omega) (by omega)
          rw [← nI_1 o] at this
          refine am_go rfl ?_
          iterate 2 refine am_g0 rfl rfl ?_
          refine am_ff (show ¬ (8 : Int32) ≤ (nI o) from nI_ge (b := 8) (by omega) (by omega)) ?_
          iterate 3 refine am_g0 rfl rfl ?_
          refine ⟨(some (.int (b01 (f o))), w), d_bit shC (by omega) (hx o (by omega)), ?_⟩
          refine am_to (lv' := [(0, .ref 0), (1, .int (nI s)), (2, .int x), (3, .int (nI (mxN G a))), (4, .int (nI a)), (5, .int (w.1 71 (a * 30 + s))), (6, .int (nI (cntN g o))), (7, .int (nI o))]) (st' := [.int (b01 (f o))]) (w' := w) rfl rfl rfl ?_
          refine am_g0 rfl rfl ?_
          cases hfo : f o with
          | false =>
            refine am_go rfl ?_
            refine am_g0 rfl rfl ?_
            rw [cntN_f (by rw [hg]; dsimp only; rw [hfo]; simp)] at this
            exact am_kl this rfl
          | true =>
            iterate 7 refine am_g0 rfl rfl ?_
            refine am_glE (n := 240) (k := o * 30 + s) rfl rfl (ix30 o s) (by omega) (by decide) ?_
            iterate 2 refine am_g0 rfl rfl ?_
            by_cases e : w.1 71 (o * 30 + s) = w.1 71 (a * 30 + s)
            · refine am_tt (show (w.1 71 (o * 30 + s) : Int32) = (w.1 71 (a * 30 + s)) from e) ?_
              refine am_g0 rfl rfl ?_
              refine am_go rfl ?_
              refine am_g0 rfl rfl ?_
              rw [cntN_t (by rw [hg]; dsimp only; rw [hfo, decide_eq_true hao, decide_eq_true e]; rfl), ← nI_1] at this
              exact am_kl this rfl
            · refine am_ff (show ¬ (w.1 71 (o * 30 + s) : Int32) = (w.1 71 (a * 30 + s)) from e) ?_
              refine am_go rfl ?_
              refine am_g0 rfl rfl ?_
              rw [cntN_f (by rw [hg]; dsimp only; rw [hfo, decide_eq_true hao, decide_eq_false e]; simp)] at this
              exact am_kl this rfl
      have this := key2 (8 - a) a (by omega) (Nat.le_refl a)
      rw [cntN_0 (fun k hk => by rw [hg]; dsimp only; rw [decide_eq_false (by omega)]; rfl)] at this
      exact am_kl this rfl
  exact am_kl (key 8 0 (by omega)) rfl
/-- the first step with the least -/
def askN (g : Nat → Nat) : Nat → Nat × Nat
  | 0 => (0, 9)
  | s + 1 => if g s < (askN g s).2 then (s, g s) else askN g s
def askA (S : Sp) (p : Nat) : Int32 := nI (askN (fun s => alkS (woreA S p 1) (fun l => cellI S.V (prF (prS S.pf p) 1 l) (wet0 S) s)) 30).1
def askQ (S : Sp) (x : Int32) : Int32 := match dI x S.q with
  | some p => askA S p
  | none => -2
theorem askN_t {g : Nat → Nat} {s : Nat} (h : g s < (askN g s).2) : askN g (s + 1) = (s, g s) := by rw [askN, if_pos h]
theorem askN_f {g : Nat → Nat} {s : Nat} (h : ¬ g s < (askN g s).2) : askN g (s + 1) = askN g s := by rw [askN, if_neg h]
theorem askN_le {g : Nat → Nat} : ∀ n, (askN g n).2 ≤ 9
  | 0 => Nat.le_refl _
  | n + 1 => by
    rw [askN]
    have := askN_le (g := g) n
    split
    · show g n ≤ 9; omega
    · exact this
theorem d_ask {d : Nat} {x : Int32} {w : am_M} {S : Sp} (hd : 8 ≤ d) (h : RC w S) : ∃ o : am_O, (o.1 = some (.int (askQ S x)) ∧ RC o.2 S) ∧ am_D shC d mi_X11_ask [.ref 0, .int x] w o := by
  have hq := h.q8
  rcases dI_or x S.q (by omega) with hx | ⟨p, hp, rfl, hx⟩
  · refine am_dex (by omega) rfl rfl ?_
    iterate 4 refine am_g0 rfl rfl ?_
    refine am_top (y := nI S.q) (h.1.P.1) ?_
    refine am_g0 rfl rfl ?_
    refine ⟨(some (.int 0), w), d_isWn shC (by omega) hx, ?_⟩
    refine am_to (lv' := [(0, .ref 0), (1, .int x)]) (st' := [.int 0]) (w' := w) rfl rfl rfl ?_
    iterate 3 refine am_g0 rfl rfl ?_
    exact ⟨rfl, by unfold askQ; rw [hx], h⟩
  · refine am_dex (by omega) rfl rfl ?_
    iterate 4 refine am_g0 rfl rfl ?_
    refine am_top (y := nI S.q) (h.1.P.1) ?_
    refine am_g0 rfl rfl ?_
    refine ⟨(some (.int 1), w), d_isWs shC (by omega) hp (by omega), ?_⟩
    refine am_to (lv' := [(0, .ref 0), (1, .int (nI p))]) (st' := [.int 1]) (w' := w) rfl rfl rfl ?_
    refine am_g0 rfl rfl ?_
    refine am_go rfl ?_
    refine am_g0 rfl rfl ?_
    obtain ⟨⟨r1, w1⟩, ⟨e1, g1, g2, g3⟩, hD1⟩ := d_retr (d := d - 1) (by omega) h
    dsimp only at e1 g1 g2 g3
    subst e1
    refine ⟨(none, w1), hD1, ?_⟩
    refine am_to (lv' := [(0, .ref 0), (1, .int (nI p))]) (st' := []) (w' := w1) rfl rfl rfl ?_
    iterate 4 refine am_g0 rfl rfl ?_
    obtain ⟨⟨r2, w2⟩, ⟨e2, f2, f3⟩, hD2⟩ := d_findWore (d := d - 1) (f := 1) (by omega) g1 g2 hp (by omega)
    dsimp only at e2 f2 f3
    subst e2
    refine ⟨(some (.int (bitsS (woreA S p 1) 8)), w2), hD2, ?_⟩
    refine am_to (lv' := [(0, .ref 0), (1, .int (nI p))]) (st' := [.int (bitsS (woreA S p 1) 8)]) (w' := w2) rfl rfl rfl ?_
    have hr : RC w2 S := g1.sc f2
    have hS : askQ S (nI p) = askA S p := by unfold askQ; rw [hx]
    rw [hS]
    have hb : ∀ l, l < 8 → wetB (bitsS (woreA S p 1) 8) l = woreA S p 1 l := fun l hl => by rw [bits_wet (by omega) l (by omega), decide_eq_true hl]; rfl
    generalize bitsS (woreA S p 1) 8 = x at hb ⊢
    iterate 7 refine am_g0 rfl rfl ?_
    unfold askA
    have hg : ∀ s, s < 30 → alkS (woreA S p 1) (fun l => w2.1 71 (l * 30 + s)) = alkS (woreA S p 1) (fun l => cellI S.V (prF (prS S.pf p) 1 l) (wet0 S) s) := fun s hs => alkS_congr (fun l hl hz => by
      rcases f3 with z | z
      · rw [z l hl] at hz; cases hz
      · exact z l hl s hs)
    have hG8 : ∀ s, alkS (woreA S p 1) (fun l => cellI S.V (prF (prS S.pf p) 1 l) (wet0 S) s) ≤ 8 := fun s => alkS_le _ _
    generalize hGG : (fun s => alkS (woreA S p 1) (fun l => cellI S.V (prF (prS S.pf p) 1 l) (wet0 S) s)) = G
    have hGe : ∀ s, alkS (woreA S p 1) (fun l => cellI S.V (prF (prS S.pf p) 1 l) (wet0 S) s) = G s := fun s => by rw [← hGG]
    have key : ∀ j s : Nat, s + j = 30 → am_R shC mi_X11_ask (am_D shC (d - 1)) (fun o => o.1 = some (.int (nI (askN G 30).1)) ∧ RC o.2 S) 37 [(0, .ref 0), (2, .int x), (3, .int (nI (askN G s).1)), (4, .int (nI (askN G s).2)), (5, .int (nI s))] [] w2 := by
      intro j
      induction j with
      | zero =>
        intro s hs
        refine am_go rfl ?_
        iterate 2 refine am_g0 rfl rfl ?_
        refine am_tt (show (30 : Int32) ≤ (nI s) from nI_le (a := 30) (by omega) (by omega)) ?_
        refine am_go rfl ?_
        refine am_g0 rfl rfl ?_
        exact ⟨rfl, by rw [show s = 30 by omega], hr⟩
      | succ j ih =>
        intro s hs
        have this := ih (s + 1) (by omega)
        rw [← nI_1 s] at this
        have h9 := askN_le (g := G) s
        have h8 := hG8 s
        rw [hGe] at h8
        refine am_go rfl ?_
        iterate 2 refine am_g0 rfl rfl ?_
        refine am_ff (show ¬ (30 : Int32) ≤ (nI s) from nI_ge (b := 30) (by omega) (by omega)) ?_
        iterate 4 refine am_g0 rfl rfl ?_
        refine ⟨(some (.int (nI (G s))), w2), by rw [← hGe, ← hg s (by omega)]; exact d_crowd (by omega) (by omega) hb, ?_⟩
        refine am_to (lv' := [(0, .ref 0), (2, .int x), (3, .int (nI (askN G s).1)), (4, .int (nI (askN G s).2)), (5, .int (nI s))]) (st' := [.int (nI (G s))]) (w' := w2) rfl rfl rfl ?_
        iterate 4 refine am_g0 rfl rfl ?_
        by_cases z : G s < (askN G s).2
        · refine am_ff (show ¬ (nI (askN G s).2 : Int32) ≤ (nI (G s)) from nI_ge z (by omega)) ?_
          iterate 4 refine am_g0 rfl rfl ?_
          refine am_go rfl ?_
          refine am_g0 rfl rfl ?_
          rw [askN_t z] at this
          exact am_kl this rfl
        · refine am_tt (show (nI (askN G s).2 : Int32) ≤ (nI (G s)) from nI_le (by omega) (by omega)) ?_
          refine am_go rfl ?_
          refine am_g0 rfl rfl ?_
          rw [askN_f z] at this
          exact am_kl this rfl
    exact am_kl (key 30 0 (by omega)) rfl
