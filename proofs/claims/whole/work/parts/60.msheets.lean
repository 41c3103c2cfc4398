/-! the model: sheets -/
theorem RM_setH {w w' : am_M} {S : Sp} {fm : Nat → Nat} {sz : Nat → Option Nat} {it : Nat → Nat → Int32} {C : List Nat} (h : RM w S) (e : am_fx C [] w w') (hC : ∀ a, a ∈ [5, 6, 12, 22] → a ∉ C) (h1 : RMh w' (S.setH fm sz it)) : RM w' (S.setH fm sz it) := by
  obtain ⟨a1, a2, a3, a4, a5, a6, a7⟩ := h
  have g : ∀ a, a ∈ [5, 6, 12, 22] → w'.1 a = w.1 a := fun a ha => e.1 a (hC a ha) (fun z => by rw [z] at ha; exact absurd ha (by decide))
  exact ⟨fun t ht => by rw [g 6 (by decide), g 5 (by decide)]; exact a1 t ht, h1, by rw [e.2.1 4 (by decide)]; exact a3, ⟨by rw [e.2.1 16 (by decide)]; exact a4.1, fun i hi => by rw [g 12 (by decide)]; exact a4.2 i hi⟩, ⟨by rw [e.2.1 32 (by decide)]; exact a5.1, fun i hi => by rw [g 22 (by decide)]; exact a5.2 i hi⟩, by rw [e.2.1 18 (by decide)]; exact a6, by rw [e.2.1 19 (by decide)]; exact a7⟩
theorem ix60 (s i : Nat) : (60 : Int32) * nI s + nI i = nI (60 * s + i) := by rw [show (60 : Int32) = nI 60 from rfl, pk_mul, nI_add]
theorem m_sheet {d : Nat} {x f n : Int32} {w : am_M} {S : Sp} (hd : 4 ≤ d) (h : RM w S) (g : SG S) : ∃ o : am_O, (o.1 = some (.int (sheetS S x f n).1) ∧ RM o.2 (sheetS S x f n).2) ∧ am_D shM d mi_X12_sheet [.ref 0, .int x, .int f, .int n] w o := by
  rcases dI_or x 4 (by decide) with hx | ⟨s, hs, rfl, hx⟩
  · refine am_dex (by omega) rfl rfl ?_
    iterate 2 refine am_g0 rfl rfl ?_
    refine ⟨(some (.int 0), w), m_isSheet_n (by omega) hx, ?_⟩
    refine am_to (lv' := [(0, .ref 0), (1, .int x), (2, .int f), (3, .int n)]) (st' := [.int 0]) (w' := w) rfl rfl rfl ?_
    refine am_g0 rfl rfl ?_
    refine am_go rfl ?_
    refine am_g0 rfl rfl ?_
    exact ⟨rfl, by unfold sheetS; rw [hx], by unfold sheetS; rw [hx]; exact h⟩
  · rcases dI_or f 3 (by decide) with hf | ⟨k, hk, rfl, hf⟩
    · refine am_dex (by omega) rfl rfl ?_
      iterate 2 refine am_g0 rfl rfl ?_
      refine ⟨(some (.int 1), w), m_isSheet_s (by omega) hs, ?_⟩
      refine am_to (lv' := [(0, .ref 0), (1, .int (nI s)), (2, .int f), (3, .int n)]) (st' := [.int 1]) (w' := w) rfl rfl rfl ?_
      iterate 6 refine am_g0 rfl rfl ?_
      refine ⟨(some (.int 0), w), m_inn (n := 3) (by omega) (by omega) (by decide) hf, ?_⟩
      refine am_to (lv' := [(0, .ref 0), (1, .int (nI s)), (2, .int f), (3, .int n)]) (st' := [.int 0]) (w' := w) rfl rfl rfl ?_
      refine am_g0 rfl rfl ?_
      refine am_go rfl ?_
      refine am_g0 rfl rfl ?_
      exact ⟨rfl, by unfold sheetS; rw [hx, hf], by unfold sheetS; rw [hx, hf]; exact h⟩
    · refine am_dex (by omega) rfl rfl ?_
      iterate 2 refine am_g0 rfl rfl ?_
      refine ⟨(some (.int 1), w), m_isSheet_s (by omega) hs, ?_⟩
      refine am_to (lv' := [(0, .ref 0), (1, .int (nI s)), (2, .int (nI k)), (3, .int n)]) (st' := [.int 1]) (w' := w) rfl rfl rfl ?_
      iterate 6 refine am_g0 rfl rfl ?_
      refine ⟨(some (.int 1), w), m_ins (n := 3) (by omega) (by omega) (by decide) hk, ?_⟩
      refine am_to (lv' := [(0, .ref 0), (1, .int (nI s)), (2, .int (nI k)), (3, .int n)]) (st' := [.int 1]) (w' := w) rfl rfl rfl ?_
      iterate 4 refine am_g0 rfl rfl ?_
      by_cases h60 : nI 60 < n
      · refine am_ff (show ¬ (n : Int32) ≤ 60 from fun z => absurd h60 (Int32.not_lt.mpr z)) ?_
        refine am_go rfl ?_
        refine am_g0 rfl rfl ?_
        exact ⟨rfl, by unfold sheetS; rw [hx, hf]; dsimp only; rw [if_pos h60], by unfold sheetS; rw [hx, hf]; dsimp only; rw [if_pos h60]; exact h⟩
      · refine am_tt (show (n : Int32) ≤ 60 from Int32.not_lt.mp h60) ?_
        refine am_go rfl ?_
        refine am_g0 rfl rfl ?_
        by_cases h0 : n < 0
        · refine am_ff (show ¬ (0 : Int32) ≤ n from Int32.not_le.mpr h0) ?_
          iterate 3 refine am_g0 rfl rfl ?_
          refine ⟨(some (.int (-15)), am_pi w 0 4 5), m_finds (x := 5) (by omega), ?_⟩
          refine am_to (lv' := [(0, .ref 0), (1, .int (nI s)), (2, .int (nI k)), (3, .int n)]) (st' := [.int (-15)]) (w' := am_pi w 0 4 5) rfl rfl rfl ?_
          refine am_g0 rfl rfl ?_
          exact ⟨rfl, by unfold sheetS; rw [hx, hf]; dsimp only; rw [if_neg h60, if_pos h0], by unfold sheetS; rw [hx, hf]; dsimp only; rw [if_neg h60, if_pos h0]; exact RM_setF h⟩
        · refine am_tt (show (0 : Int32) ≤ n from Int32.not_lt.mp h0) ?_
          obtain ⟨m, hm60, rfl⟩ : ∃ m, m ≤ 60 ∧ n = nI m := nI_of2 (M := nI 60) (n := 60) (nI_toInt (by omega)) h0 (Int32.not_lt.mp h60)
          have hS : sheetS S (nI s) (nI k) (nI m) = (nI m, S.setH (up1 S.fm s k) (upO S.sz s (some m)) (fun a b => if a = s then 0 else S.it a b)) := by unfold sheetS; rw [hx, hf]; dsimp only; rw [if_neg h60, if_neg h0, nI_clamp (by omega)]
          rw [hS]
          refine am_go rfl ?_
          iterate 3 refine am_g0 rfl rfl ?_
          refine am_gsN (n := 4) (k := s) rfl rfl (by omega) (by decide) ?_
          refine am_to (lv' := [(0, .ref 0), (1, .int (nI s)), (2, .int (nI k)), (3, .int (nI m))]) (st' := []) (w' := am_pi w 1 s (nI k)) rfl rfl rfl ?_
          iterate 4 refine am_g0 rfl rfl ?_
          refine am_gsN (n := 4) (k := s) rfl rfl (by omega) (by decide) ?_
          refine am_to (lv' := [(0, .ref 0), (1, .int (nI s)), (2, .int (nI k)), (3, .int (nI m))]) (st' := []) (w' := am_pi (am_pi w 1 s (nI k)) 2 s (nI m)) rfl rfl rfl ?_
          iterate 2 refine am_g0 rfl rfl ?_
          refine am_to (lv' := [(0, .ref 0), (1, .int (nI s)), (2, .int (nI k)), (3, .int (nI m)), (4, .int 0)]) (st' := []) (w' := am_pi (am_pi w 1 s (nI k)) 2 s (nI m)) rfl rfl rfl ?_
          generalize hv : am_pi (am_pi w 1 s (nI k)) 2 s (nI m) = v
          have fv : am_fx [1, 2, 3] [] w v := by rw [← hv]; exact (am_fx.rf.pc (by decide) (by decide)).pc (by decide) (by decide)
          have v1 : ∀ c, v.1 1 c = if c = s then nI k else w.1 1 c := fun c => by
            rw [← hv, am_pi_row (by omega)]
            by_cases e : c = s
            · rw [if_pos e, e, am_pi_at]
            · rw [if_neg e, am_pi_ne (Or.inr e)]
          have v2 : ∀ c, v.1 2 c = if c = s then nI m else w.1 2 c := fun c => by
            rw [← hv]
            by_cases e : c = s
            · rw [if_pos e, e, am_pi_at]
            · rw [if_neg e, am_pi_ne (Or.inr e), am_pi_row (by omega)]
          have v3 : v.1 3 = w.1 3 := by rw [← hv, am_pi_row (by omega), am_pi_row (by omega)]
          have key : ∀ j i : Nat, i + j = m → ∀ u : am_M, am_fx [1, 2, 3] [] w u → u.1 1 = v.1 1 → u.1 2 = v.1 2 → (∀ e, (e < 60 * s ∨ 60 * s + 60 ≤ e) → u.1 3 e = w.1 3 e) → (∀ e, e < i → u.1 3 (60 * s + e) = 0) → am_R shM mi_X12_sheet (am_D shM (d - 1)) (fun o => o.1 = some (.int (nI m)) ∧ RM o.2 (S.setH (up1 S.fm s k) (upO S.sz s (some m)) (fun a b => if a = s then 0 else S.it a b))) 55 [(0, .ref 0), (1, .int (nI s)), (3, .int (nI m)), (4, .int (nI i))] [] u := by
            intro j
            induction j with
            | zero =>
              intro i hi u fu u1 u2 u3 uz
              refine am_go rfl ?_
              iterate 2 refine am_g0 rfl rfl ?_
              refine am_tt (show (nI m : Int32) ≤ (nI i) from nI_le (by omega) (by omega)) ?_
              refine am_go rfl ?_
              refine am_g0 rfl rfl ?_
              refine ⟨rfl, rfl, RM_setH h fu (by decide) (fun c hc => ?_)⟩
              show (upO S.sz s (some m) c = none → u.1 1 c = -1) ∧ ∀ n, upO S.sz s (some m) c = some n → u.1 1 c = nI (up1 S.fm s k c) ∧ u.1 2 c = nI n ∧ ∀ i, i < n → u.1 3 (60 * c + i) = if c = s then 0 else S.it c i
              rw [u1, u2, v1, v2]
              unfold upO
              by_cases e : c = s
              · rw [if_pos e, if_pos e, if_pos e, e, up1_at]
                refine ⟨fun z => (by cases z), fun n hn => ?_⟩
                cases hn
                exact ⟨rfl, rfl, fun e he => by rw [if_pos rfl]; exact uz e (by omega)⟩
              · rw [if_neg e, if_neg e, if_neg e, up1_ne e]
                obtain ⟨b1, b2⟩ := h.2.1 c hc
                refine ⟨b1, fun n hn => ?_⟩
                obtain ⟨c1, c2, c3⟩ := b2 n hn
                have := (g.1.2.2.2 c hc).2 n hn
                exact ⟨c1, c2, fun i hi => by rw [if_neg e, u3 _ (by omega)]; exact c3 i hi⟩
            | succ j ih =>
              intro i hi u fu u1 u2 u3 uz
              refine am_go rfl ?_
              iterate 2 refine am_g0 rfl rfl ?_
              refine am_ff (show ¬ (nI m : Int32) ≤ (nI i) from nI_ge (by omega) (by omega)) ?_
              iterate 8 refine am_g0 rfl rfl ?_
              refine am_gsE (n := 240) (k := 60 * s + i) rfl rfl (ix60 s i) (by omega) (by decide) ?_
              refine am_to (lv' := [(0, .ref 0), (1, .int (nI s)), (3, .int (nI m)), (4, .int (nI i))]) (st' := []) (w' := am_pi u 3 (60 * s + i) 0) rfl rfl rfl ?_
              iterate 2 refine am_g0 rfl rfl ?_
              have this := ih (i + 1) (by omega) (am_pi u 3 (60 * s + i) 0) (fu.pc (by decide) (by decide)) (by rw [am_pi_row (by omega)]; exact u1) (by rw [am_pi_row (by omega)]; exact u2) (fun e he => by rw [am_pi_ne (Or.inr (by omega))]; exact u3 e he) (fun e he => if z : e = i then by rw [z, am_pi_at] else by rw [am_pi_ne (Or.inr (by omega))]; exact uz e (by omega))
              rw [← nI_1] at this
              exact am_kl this rfl
          exact am_kl (key m 0 (by omega) v fv rfl rfl (fun e _ => by rw [v3]) (fun e he => absurd he (Nat.not_lt_zero e))) rfl
theorem m_lose {d : Nat} {x : Int32} {w : am_M} {S : Sp} (hd : 4 ≤ d) (h : RM w S) (g : SG S) : ∃ o : am_O, (o.1 = some (.int (loseS S x).1) ∧ RM o.2 (loseS S x).2) ∧ am_D shM d mi_X12_lose [.ref 0, .int x] w o := by
  rcases dI_or x 4 (by decide) with hx | ⟨s, hs, rfl, hx⟩
  · refine am_dex (by omega) rfl rfl ?_
    iterate 2 refine am_g0 rfl rfl ?_
    refine ⟨(some (.int 0), w), m_isSheet_n (by omega) hx, ?_⟩
    refine am_to (lv' := [(0, .ref 0), (1, .int x)]) (st' := [.int 0]) (w' := w) rfl rfl rfl ?_
    iterate 3 refine am_g0 rfl rfl ?_
    exact ⟨rfl, by unfold loseS; rw [hx], by unfold loseS; rw [hx]; exact h⟩
  · obtain ⟨b1, b2⟩ := h.2.1 s hs
    refine am_dex (by omega) rfl rfl ?_
    iterate 2 refine am_g0 rfl rfl ?_
    refine ⟨(some (.int 1), w), m_isSheet_s (by omega) hs, ?_⟩
    refine am_to (lv' := [(0, .ref 0), (1, .int (nI s))]) (st' := [.int 1]) (w' := w) rfl rfl rfl ?_
    refine am_g0 rfl rfl ?_
    refine am_go rfl ?_
    iterate 2 refine am_g0 rfl rfl ?_
    refine am_glN (n := 4) (k := s) rfl rfl (by omega) (by decide) ?_
    refine am_g0 rfl rfl ?_
    rcases opt_or (S.sz s) with hz | ⟨n, hz⟩
    · have hS : loseS S (nI s) = (-11, S.setF 1) := by unfold loseS; rw [hx]; dsimp only; rw [hz]
      rw [hS]
      refine am_ff (show ¬ (0 : Int32) ≤ (w.1 1 s) from by rw [b1 hz]; decide) ?_
      iterate 3 refine am_g0 rfl rfl ?_
      refine ⟨(some (.int (-11)), am_pi w 0 4 1), m_finds (x := 1) (by omega), ?_⟩
      refine am_to (lv' := [(0, .ref 0), (1, .int (nI s))]) (st' := [.int (-11)]) (w' := am_pi w 0 4 1) rfl rfl rfl ?_
      refine am_g0 rfl rfl ?_
      exact ⟨rfl, rfl, RM_setF h⟩
    · have hS : loseS S (nI s) = (nI n, S.setH S.fm (upO S.sz s none) S.it) := by unfold loseS; rw [hx]; dsimp only; rw [hz]
      rw [hS]
      obtain ⟨c1, c2, c3⟩ := b2 n hz
      have h3 := (g.1.2.2.2 s hs).1
      refine am_tt (show (0 : Int32) ≤ (w.1 1 s) from by rw [c1]; exact nI_pos' (by omega)) ?_
      refine am_go rfl ?_
      iterate 3 refine am_g0 rfl rfl ?_
      refine am_gsN (n := 4) (k := s) rfl rfl (by omega) (by decide) ?_
      refine am_to (lv' := [(0, .ref 0), (1, .int (nI s))]) (st' := []) (w' := am_pi w 1 s (-1)) rfl rfl rfl ?_
      iterate 3 refine am_g0 rfl rfl ?_
      refine am_glN (n := 4) (k := s) rfl rfl (by omega) (by decide) ?_
      refine am_top (y := nI n) (by rw [am_pi_row (by omega)]; exact c2) ?_
      refine am_g0 rfl rfl ?_
      refine ⟨rfl, rfl, RM_setH h (am_fx.rf.pc (a := 1) (C := [1]) (by decide) (by decide)) (by decide) (fun c hc => ?_)⟩
      show (upO S.sz s none c = none → (am_pi w 1 s (-1)).1 1 c = -1) ∧ ∀ n, upO S.sz s none c = some n → (am_pi w 1 s (-1)).1 1 c = nI (S.fm c) ∧ (am_pi w 1 s (-1)).1 2 c = nI n ∧ ∀ i, i < n → (am_pi w 1 s (-1)).1 3 (60 * c + i) = S.it c i
      rw [am_pi_row (show 2 ≠ 1 by omega), am_pi_row (show 3 ≠ 1 by omega)]
      unfold upO
      by_cases e : c = s
      · rw [if_pos e, e, am_pi_at]
        exact ⟨fun _ => rfl, fun n hn => (by cases hn)⟩
      · rw [if_neg e, am_pi_ne (Or.inr e)]
        exact h.2.1 c hc
theorem m_lacks {d s k : Nat} {i : Int32} {w : am_M} {S : Sp} (hd : 3 ≤ d) (h : RM w S) (g : SG S) (hs : s < 4) (hk : k < 3) : ∃ o : am_O, (match findS S s k i with | .inl r => ∃ y : Int32, y ≠ 0 ∧ y = (-10) - r ∧ o = (some (.int y), am_pi w 0 4 r) | .inr _ => o = (some (.int 0), w)) ∧ am_D shM d mi_X12_lacks [.ref 0, .int (nI s), .int (nI k), .int i] w o := by
  obtain ⟨b1, b2⟩ := h.2.1 s hs
  have h3 := (g.1.2.2.2 s hs).1
  refine am_dex (by omega) rfl rfl ?_
  iterate 3 refine am_g0 rfl rfl ?_
  refine am_glN (n := 4) (k := s) rfl rfl (by omega) (by decide) ?_
  refine am_g0 rfl rfl ?_
  rcases opt_or (S.sz s) with hz | ⟨n, hz⟩
  · have hF : findS S s k i = .inl 1 := by unfold findS; rw [hz]
    rw [hF]
    refine am_ff (show ¬ (0 : Int32) ≤ (w.1 1 s) from by rw [b1 hz]; decide) ?_
    iterate 3 refine am_g0 rfl rfl ?_
    refine ⟨(some (.int (-11)), am_pi w 0 4 1), m_finds (x := 1) (by omega), ?_⟩
    refine am_to (lv' := [(0, .ref 0), (1, .int (nI s)), (2, .int (nI k)), (3, .int i)]) (st' := [.int (-11)]) (w' := am_pi w 0 4 1) rfl rfl rfl ?_
    refine am_g0 rfl rfl ?_
    exact ⟨rfl, -11, by decide, by decide, rfl⟩
  · obtain ⟨c1, c2, c3⟩ := b2 n hz
    have hn60 := (g.1.2.2.2 s hs).2 n hz
    refine am_tt (show (0 : Int32) ≤ (w.1 1 s) from by rw [c1]; exact nI_pos' (by omega)) ?_
    refine am_go rfl ?_
    iterate 2 refine am_g0 rfl rfl ?_
    refine am_glN (n := 4) (k := s) rfl rfl (by omega) (by decide) ?_
    iterate 2 refine am_g0 rfl rfl ?_
    by_cases hkf : k = S.fm s
    · refine am_tt (show (w.1 1 s : Int32) = (nI k) from by rw [c1, hkf]) ?_
      refine am_go rfl ?_
      iterate 5 refine am_g0 rfl rfl ?_
      refine am_glN (n := 4) (k := s) rfl rfl (by omega) (by decide) ?_
      refine am_top (y := nI n) (c2) ?_
      iterate 4 refine am_g0 rfl rfl ?_
      have hc : (nI n - 1).toInt64.toInt = (n : Int) - 1 := by
        rw [i64_toInt, show (1 : Int32) = nI 1 from rfl, pk_sub_toInt (by omega) (by omega)]
        rfl
      rcases dI_or i n (by omega) with hi | ⟨e, he, rfl, hi⟩
      · have hF : findS S s k i = .inl 2 := by unfold findS; rw [hz]; dsimp only; rw [if_pos hkf, hi]
        rw [hF]
        refine ⟨(some (.int 0), w), m_inn (n := n) (by omega) (by omega) hc hi, ?_⟩
        refine am_to (lv' := [(0, .ref 0), (1, .int (nI s)), (3, .int i)]) (st' := [.int 0]) (w' := w) rfl rfl rfl ?_
        refine am_g0 rfl rfl ?_
        refine am_go rfl ?_
        iterate 2 refine am_g0 rfl rfl ?_
        refine ⟨(some (.int (-12)), am_pi w 0 4 2), m_finds (x := 2) (by omega), ?_⟩
        refine am_to (lv' := [(0, .ref 0)]) (st' := [.int (-12)]) (w' := am_pi w 0 4 2) rfl rfl rfl ?_
        refine am_go rfl ?_
        exact ⟨rfl, -12, by decide, by decide, rfl⟩
      · have hF : findS S s k (nI e) = .inr e := by unfold findS; rw [hz]; dsimp only; rw [if_pos hkf, hi]
        rw [hF]
        refine ⟨(some (.int 1), w), m_ins (n := n) (by omega) (by omega) hc he, ?_⟩
        refine am_to (lv' := [(0, .ref 0), (1, .int (nI s)), (3, .int (nI e))]) (st' := [.int 1]) (w' := w) rfl rfl rfl ?_
        iterate 3 refine am_g0 rfl rfl ?_
        refine am_go rfl ?_
        exact ⟨rfl, rfl⟩
    · have hF : findS S s k i = .inl 3 := by unfold findS; rw [hz]; dsimp only; rw [if_neg hkf]
      rw [hF]
      refine am_ff (show ¬ (w.1 1 s : Int32) = (nI k) from by rw [c1]; exact fun z => hkf ((nI_eq (by omega) (by omega)).mp z).symm) ?_
      iterate 3 refine am_g0 rfl rfl ?_
      refine ⟨(some (.int (-13)), am_pi w 0 4 3), m_finds (x := 3) (by omega), ?_⟩
      refine am_to (lv' := [(0, .ref 0), (1, .int (nI s)), (2, .int (nI k)), (3, .int i)]) (st' := [.int (-13)]) (w' := am_pi w 0 4 3) rfl rfl rfl ?_
      refine am_g0 rfl rfl ?_
      exact ⟨rfl, -13, by decide, by decide, rfl⟩
theorem no10 {r : Int32} (h : r = 1 ∨ r = 2 ∨ r = 3) : ¬ (-10) - r = 0 := by rcases h with z | z | z <;> (rw [z]; decide)
theorem findS_r {S : Sp} {s k e : Nat} {i : Int32} (hn9 : ∀ n, S.sz s = some n → n ≤ 60) (h : findS S s k i = .inr e) : ∃ n, S.sz s = some n ∧ e < n ∧ i = nI e ∧ k = S.fm s := by
  unfold findS at h
  cases hz : S.sz s with
  | none => rw [hz] at h; cases h
  | some n =>
    rw [hz] at h
    dsimp only at h
    by_cases hk : k = S.fm s
    · rw [if_pos hk] at h
      have hn : n < 2 ^ 31 := by have := hn9 n hz; omega
      rcases dI_or i n hn with hi | ⟨e', he, rfl, hi⟩
      · rw [hi] at h; cases h
      · rw [hi] at h; cases h; exact ⟨n, rfl, he, rfl, hk⟩
    · rw [if_neg hk] at h; cases h
theorem m_lay {d : Nat} {x f i v : Int32} {w : am_M} {S : Sp} (hd : 5 ≤ d) (h : RM w S) (g : SG S) : ∃ o : am_O, (o.1 = some (.int (layS S x f i v).1) ∧ RM o.2 (layS S x f i v).2) ∧ am_D shM d mi_X12_lay [.ref 0, .int x, .int f, .int i, .int v] w o := by
  rcases dI_or x 4 (by decide) with hx | ⟨s, hs, rfl, hx⟩
  · refine am_dex (by omega) rfl rfl ?_
    iterate 2 refine am_g0 rfl rfl ?_
    refine ⟨(some (.int 0), w), m_isSheet_n (by omega) hx, ?_⟩
    refine am_to (lv' := [(0, .ref 0), (1, .int x), (2, .int f), (3, .int i), (4, .int v)]) (st' := [.int 0]) (w' := w) rfl rfl rfl ?_
    refine am_g0 rfl rfl ?_
    refine am_go rfl ?_
    refine am_g0 rfl rfl ?_
    exact ⟨rfl, by unfold layS; rw [hx], by unfold layS; rw [hx]; exact h⟩
  · rcases dI_or f 3 (by decide) with hf | ⟨k, hk, rfl, hf⟩
    · refine am_dex (by omega) rfl rfl ?_
      iterate 2 refine am_g0 rfl rfl ?_
      refine ⟨(some (.int 1), w), m_isSheet_s (by omega) hs, ?_⟩
      refine am_to (lv' := [(0, .ref 0), (1, .int (nI s)), (2, .int f), (3, .int i), (4, .int v)]) (st' := [.int 1]) (w' := w) rfl rfl rfl ?_
      iterate 6 refine am_g0 rfl rfl ?_
      refine ⟨(some (.int 0), w), m_inn (n := 3) (by omega) (by omega) (by decide) hf, ?_⟩
      refine am_to (lv' := [(0, .ref 0), (1, .int (nI s)), (2, .int f), (3, .int i), (4, .int v)]) (st' := [.int 0]) (w' := w) rfl rfl rfl ?_
      refine am_g0 rfl rfl ?_
      refine am_go rfl ?_
      refine am_g0 rfl rfl ?_
      exact ⟨rfl, by unfold layS; rw [hx, hf], by unfold layS; rw [hx, hf]; exact h⟩
    · have hS : layS S (nI s) (nI k) i v = (match findS S s k i with | .inl r => ((-10) - r, S.setF r) | .inr e => (1, S.setH S.fm S.sz (upI S.it s e (cCut (nI k) v)))) := by unfold layS; rw [hx, hf]; rfl
      obtain ⟨⟨r1, w1⟩, hr, hD⟩ := m_lacks (d := d - 1) (i := i) (by omega) h g hs hk
      rcases hF : findS S s k i with r | e
      · rw [hF] at hr
        obtain ⟨y, hy0, hy, hr⟩ := hr
        rw [hr] at hD
        have hS' : layS S (nI s) (nI k) i v = (y, S.setF r) := by rw [hS, hF, hy]
        rw [hS']
        refine am_dex (by omega) rfl rfl ?_
        iterate 2 refine am_g0 rfl rfl ?_
        refine ⟨(some (.int 1), w), m_isSheet_s (by omega) hs, ?_⟩
        refine am_to (lv' := [(0, .ref 0), (1, .int (nI s)), (2, .int (nI k)), (3, .int i), (4, .int v)]) (st' := [.int 1]) (w' := w) rfl rfl rfl ?_
        iterate 6 refine am_g0 rfl rfl ?_
        refine ⟨(some (.int 1), w), m_ins (n := 3) (by omega) (by omega) (by decide) hk, ?_⟩
        refine am_to (lv' := [(0, .ref 0), (1, .int (nI s)), (2, .int (nI k)), (3, .int i), (4, .int v)]) (st' := [.int 1]) (w' := w) rfl rfl rfl ?_
        refine am_g0 rfl rfl ?_
        refine am_go rfl ?_
        iterate 4 refine am_g0 rfl rfl ?_
        refine ⟨(some (.int y), am_pi w 0 4 r), hD, ?_⟩
        refine am_to (lv' := [(0, .ref 0), (1, .int (nI s)), (2, .int (nI k)), (3, .int i), (4, .int v)]) (st' := [.int y]) (w' := am_pi w 0 4 r) rfl rfl rfl ?_
        iterate 3 refine am_g0 rfl rfl ?_
        refine am_ff (show ¬ (y : Int32) = 0 from hy0) ?_
        iterate 2 refine am_g0 rfl rfl ?_
        exact ⟨rfl, rfl, RM_setF h⟩
      · rw [hF] at hr
        rw [hr] at hD
        have hS' : layS S (nI s) (nI k) i v = (1, S.setH S.fm S.sz (upI S.it s e (cCut (nI k) v))) := by rw [hS, hF]
        rw [hS']
        obtain ⟨n, hz, hen, rfl, hkf⟩ := findS_r (fun n hn => (g.1.2.2.2 s hs).2 n hn) hF
        have hn60 := (g.1.2.2.2 s hs).2 n hz
        refine am_dex (by omega) rfl rfl ?_
        iterate 2 refine am_g0 rfl rfl ?_
        refine ⟨(some (.int 1), w), m_isSheet_s (by omega) hs, ?_⟩
        refine am_to (lv' := [(0, .ref 0), (1, .int (nI s)), (2, .int (nI k)), (3, .int (nI e)), (4, .int v)]) (st' := [.int 1]) (w' := w) rfl rfl rfl ?_
        iterate 6 refine am_g0 rfl rfl ?_
        refine ⟨(some (.int 1), w), m_ins (n := 3) (by omega) (by omega) (by decide) hk, ?_⟩
        refine am_to (lv' := [(0, .ref 0), (1, .int (nI s)), (2, .int (nI k)), (3, .int (nI e)), (4, .int v)]) (st' := [.int 1]) (w' := w) rfl rfl rfl ?_
        refine am_g0 rfl rfl ?_
        refine am_go rfl ?_
        iterate 4 refine am_g0 rfl rfl ?_
        refine ⟨(some (.int 0), w), hD, ?_⟩
        refine am_to (lv' := [(0, .ref 0), (1, .int (nI s)), (2, .int (nI k)), (3, .int (nI e)), (4, .int v)]) (st' := [.int 0]) (w' := w) rfl rfl rfl ?_
        iterate 3 refine am_g0 rfl rfl ?_
        refine am_go rfl ?_
        iterate 9 refine am_g0 rfl rfl ?_
        refine ⟨(some (.int (cCut (nI k) v)), w), m_cut (by omega), ?_⟩
        refine am_to (lv' := [(0, .ref 0), (1, .int (nI s)), (2, .int (nI k)), (3, .int (nI e)), (4, .int v)]) (st' := [.int (cCut (nI k) v), .int (((60 : Int32) * (nI s)) + (nI e)), .ref 3]) (w' := w) rfl rfl rfl ?_
        refine am_gsE (n := 240) (k := 60 * s + e) rfl rfl (ix60 s e) (by omega) (by decide) ?_
        refine am_to (lv' := [(0, .ref 0), (1, .int (nI s)), (2, .int (nI k)), (3, .int (nI e)), (4, .int v)]) (st' := []) (w' := am_pi w 3 (60 * s + e) (cCut (nI k) v)) rfl rfl rfl ?_
        iterate 2 refine am_g0 rfl rfl ?_
        refine ⟨rfl, rfl, RM_setH h (am_fx.rf.pc (a := 3) (C := [3]) (by decide) (by decide)) (by decide) (fun c hc => ?_)⟩
        obtain ⟨b1, b2⟩ := h.2.1 c hc
        refine ⟨b1, fun n' hn' => ?_⟩
        obtain ⟨c1, c2, c3⟩ := b2 n' hn'
        have := (g.1.2.2.2 c hc).2 n' hn'
        refine ⟨c1, c2, fun e' he' => ?_⟩
        show (am_pi w 3 (60 * s + e) (cCut (nI k) v)).1 3 (60 * c + e') = upI S.it s e (cCut (nI k) v) c e'
        unfold upI
        by_cases z : c = s ∧ e' = e
        · rw [if_pos z, z.1, z.2, am_pi_at]
        · rw [if_neg z, am_pi_ne (Or.inr (by omega))]
          exact c3 e' he'
theorem m_get {d : Nat} {x f i : Int32} {w : am_M} {S : Sp} (hd : 5 ≤ d) (h : RM w S) (g : SG S) : ∃ o : am_O, (o.1 = some (.int (getS S x f i).1) ∧ RM o.2 (getS S x f i).2) ∧ am_D shM d mi_X12_get [.ref 0, .int x, .int f, .int i] w o := by
  rcases dI_or x 4 (by decide) with hx | ⟨s, hs, rfl, hx⟩
  · refine am_dex (by omega) rfl rfl ?_
    iterate 2 refine am_g0 rfl rfl ?_
    refine ⟨(some (.int 0), w), m_isSheet_n (by omega) hx, ?_⟩
    refine am_to (lv' := [(0, .ref 0), (1, .int x), (2, .int f), (3, .int i)]) (st' := [.int 0]) (w' := w) rfl rfl rfl ?_
    refine am_g0 rfl rfl ?_
    refine am_go rfl ?_
    refine am_g0 rfl rfl ?_
    exact ⟨rfl, by unfold getS; rw [hx], by unfold getS; rw [hx]; exact h⟩
  · rcases dI_or f 3 (by decide) with hf | ⟨k, hk, rfl, hf⟩
    · refine am_dex (by omega) rfl rfl ?_
      iterate 2 refine am_g0 rfl rfl ?_
      refine ⟨(some (.int 1), w), m_isSheet_s (by omega) hs, ?_⟩
      refine am_to (lv' := [(0, .ref 0), (1, .int (nI s)), (2, .int f), (3, .int i)]) (st' := [.int 1]) (w' := w) rfl rfl rfl ?_
      iterate 6 refine am_g0 rfl rfl ?_
      refine ⟨(some (.int 0), w), m_inn (n := 3) (by omega) (by omega) (by decide) hf, ?_⟩
      refine am_to (lv' := [(0, .ref 0), (1, .int (nI s)), (2, .int f), (3, .int i)]) (st' := [.int 0]) (w' := w) rfl rfl rfl ?_
      refine am_g0 rfl rfl ?_
      refine am_go rfl ?_
      refine am_g0 rfl rfl ?_
      exact ⟨rfl, by unfold getS; rw [hx, hf], by unfold getS; rw [hx, hf]; exact h⟩
    · have hS : getS S (nI s) (nI k) i = (match findS S s k i with | .inl r => (-2147483648, S.setF r) | .inr e => (S.it s e, S)) := by unfold getS; rw [hx, hf]; rfl
      obtain ⟨⟨r1, w1⟩, hr, hD⟩ := m_lacks (d := d - 1) (i := i) (by omega) h g hs hk
      rcases hF : findS S s k i with r | e
      · rw [hF] at hr
        obtain ⟨y, hy0, hy, hr⟩ := hr
        rw [hr] at hD
        have hS' : getS S (nI s) (nI k) i = (-2147483648, S.setF r) := by rw [hS, hF]
        rw [hS']
        refine am_dex (by omega) rfl rfl ?_
        iterate 2 refine am_g0 rfl rfl ?_
        refine ⟨(some (.int 1), w), m_isSheet_s (by omega) hs, ?_⟩
        refine am_to (lv' := [(0, .ref 0), (1, .int (nI s)), (2, .int (nI k)), (3, .int i)]) (st' := [.int 1]) (w' := w) rfl rfl rfl ?_
        iterate 6 refine am_g0 rfl rfl ?_
        refine ⟨(some (.int 1), w), m_ins (n := 3) (by omega) (by omega) (by decide) hk, ?_⟩
        refine am_to (lv' := [(0, .ref 0), (1, .int (nI s)), (2, .int (nI k)), (3, .int i)]) (st' := [.int 1]) (w' := w) rfl rfl rfl ?_
        iterate 6 refine am_g0 rfl rfl ?_
        refine ⟨(some (.int y), am_pi w 0 4 r), hD, ?_⟩
        refine am_to (lv' := [(0, .ref 0), (1, .int (nI s)), (2, .int (nI k)), (3, .int i)]) (st' := [.int y]) (w' := am_pi w 0 4 r) rfl rfl rfl ?_
        refine am_g0 rfl rfl ?_
        refine am_ff (show ¬ (y : Int32) = 0 from hy0) ?_
        refine am_go rfl ?_
        refine am_g0 rfl rfl ?_
        exact ⟨rfl, rfl, RM_setF h⟩
      · rw [hF] at hr
        rw [hr] at hD
        have hS' : getS S (nI s) (nI k) i = (S.it s e, S) := by rw [hS, hF]
        rw [hS']
        obtain ⟨n, hz, hen, rfl, hkf⟩ := findS_r (fun n hn => (g.1.2.2.2 s hs).2 n hn) hF
        have hn60 := (g.1.2.2.2 s hs).2 n hz
        refine am_dex (by omega) rfl rfl ?_
        iterate 2 refine am_g0 rfl rfl ?_
        refine ⟨(some (.int 1), w), m_isSheet_s (by omega) hs, ?_⟩
        refine am_to (lv' := [(0, .ref 0), (1, .int (nI s)), (2, .int (nI k)), (3, .int (nI e))]) (st' := [.int 1]) (w' := w) rfl rfl rfl ?_
        iterate 6 refine am_g0 rfl rfl ?_
        refine ⟨(some (.int 1), w), m_ins (n := 3) (by omega) (by omega) (by decide) hk, ?_⟩
        refine am_to (lv' := [(0, .ref 0), (1, .int (nI s)), (2, .int (nI k)), (3, .int (nI e))]) (st' := [.int 1]) (w' := w) rfl rfl rfl ?_
        iterate 6 refine am_g0 rfl rfl ?_
        refine ⟨(some (.int 0), w), hD, ?_⟩
        refine am_to (lv' := [(0, .ref 0), (1, .int (nI s)), (2, .int (nI k)), (3, .int (nI e))]) (st' := [.int 0]) (w' := w) rfl rfl rfl ?_
        refine am_g0 rfl rfl ?_
        refine am_go rfl ?_
        iterate 6 refine am_g0 rfl rfl ?_
        refine am_glE (n := 240) (k := 60 * s + e) rfl rfl (ix60 s e) (by omega) (by decide) ?_
        refine am_top (y := S.it s e) (((h.2.1 s hs).2 n hz).2.2 e hen) ?_
        refine am_g0 rfl rfl ?_
        exact ⟨rfl, rfl, h⟩
