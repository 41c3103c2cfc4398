/-! sheets: the class -/
theorem sh_S4 (t : Nat) (ht : t < 4) : ([25, 26, 27, 28] : List Nat)[t]? = some (25 + t) := by
  match t, ht with
  | 0, _ => rfl
  | 1, _ => rfl
  | 2, _ => rfl
  | 3, _ => rfl
theorem opI_m1 {o : Option Nat} (h : ∀ n, o = some n → n < 2 ^ 31) : opI o = -1 ↔ o = none := by
  cases o with
  | none => exact ⟨fun _ => rfl, fun _ => rfl⟩
  | some n => exact ⟨fun z => absurd (nI_pos' (h n rfl)) (by rw [show nI n = -1 from z]; decide), fun z => by cases z⟩
theorem RC.szn {w : am_M} {S : Sp} (h : RC w S) {s : Nat} (hs : s < 4) : (w.1 (25 + s) 2 = -1 ↔ S.sz s = none) := by
  rw [((h.1.2.2.2.2.2.2.2.1) s hs).1]
  exact opI_m1 (fun n hn => by have := (h.1.1.2.2.2 s hs).2 n hn; omega)
/-! what the sheets' calls answer -/
def upO (f : Nat → Option Nat) (k : Nat) (v : Option Nat) : Nat → Option Nat := fun i => if i = k then v else f i
def upI (f : Nat → Nat → Int32) (s k : Nat) (v : Int32) : Nat → Nat → Int32 := fun a b => if a = s ∧ b = k then v else f a b
def sheetS (S : Sp) (x f n : Int32) : Int32 × Sp := match dI x 4, dI f 3 with
  | some s, some g => if nI 60 < n then (-2, S) else if n < 0 then (-15, S.setF 5) else (n, S.setH (up1 S.fm s g) (upO S.sz s (some n.toNatClampNeg)) (fun a b => if a = s then 0 else S.it a b))
  | _, _ => (-2, S)
def loseS (S : Sp) (x : Int32) : Int32 × Sp := match dI x 4 with
  | some s => (match S.sz s with
    | none => (-11, S.setF 1)
    | some n => (nI n, S.setH S.fm (upO S.sz s none) S.it))
  | none => (-2, S)
/-- the finding, or the place -/
def findS (S : Sp) (s g : Nat) (i : Int32) : Int32 ⊕ Nat := match S.sz s with
  | none => .inl 1
  | some n => if g = S.fm s then (match dI i n with
    | none => .inl 2
    | some k => .inr k) else .inl 3
def layS (S : Sp) (x f i v : Int32) : Int32 × Sp := match dI x 4, dI f 3 with
  | some s, some g => (match findS S s g i with
    | .inl r => ((-10) - r, S.setF r)
    | .inr k => (1, S.setH S.fm S.sz (upI S.it s k (cCut (nI g) v))))
  | _, _ => (-2, S)
def getS (S : Sp) (x f i : Int32) : Int32 × Sp := match dI x 4, dI f 3 with
  | some s, some g => (match findS S s g i with
    | .inl r => (-2147483648, S.setF r)
    | .inr k => (S.it s k, S))
  | _, _ => (-2147483648, S)
theorem cFind_eq {w : am_M} {S : Sp} {s g : Nat} {i : Int32} (h : RC w S) (hs : s < 4) (hg : g < 3) : (∃ r, r ≠ 0 ∧ findS S s g i = .inl r ∧ cFind w s (nI g) i = r) ∨ ∃ k n, findS S s g i = .inr k ∧ S.sz s = some n ∧ k < n ∧ n ≤ 60 ∧ g = S.fm s ∧ i = nI k ∧ cFind w s (nI g) i = 0 := by
  obtain ⟨a1, a2⟩ := (h.1.2.2.2.2.2.2.2.1) s hs
  obtain ⟨b1, b2⟩ := h.1.1.2.2.2 s hs
  unfold findS cFind
  rcases opt_or (S.sz s) with hz | ⟨n, hz⟩
  · left
    refine ⟨1, by decide, by rw [hz], ?_⟩
    rw [if_pos ((h.szn hs).mpr hz)]
  · have hn := b2 n hz
    obtain ⟨c1, c2⟩ := a2 n hz
    rw [hz] at a1
    have hne : ¬ w.1 (25 + s) 2 = -1 := fun z => by rw [(h.szn hs).mp z] at hz; cases hz
    rw [hz, if_neg hne, c1]
    dsimp only
    by_cases hg2 : g = S.fm s
    · rw [if_pos hg2, if_pos (by rw [hg2])]
      have a3 : w.1 (25 + s) 2 = nI n := a1
      rw [a3]
      rcases dI_or i n (by omega) with hi | ⟨k, hk, rfl, hi⟩
      · left; exact ⟨2, by decide, by rw [hi], by rw [if_pos (dI_fi hi)]⟩
      · right; exact ⟨k, n, by rw [hi], rfl, hk, hn, hg2, rfl, by rw [if_neg (fun z => z.elim (nI_pos (by omega)) (nI_ge hk (by omega)))]⟩
    · left
      rw [if_neg hg2, if_neg (nne hg2 (by omega) (by omega))]
      exact ⟨3, by decide, rfl, rfl⟩
theorem d_sheet {d : Nat} {x f n : Int32} {w : am_M} {S : Sp} (hd : 8 ≤ d) (h : RC w S) : ∃ o : am_O, (o.1 = some (.int (sheetS S x f n).1) ∧ RC o.2 (sheetS S x f n).2) ∧ am_D shC d mi_X11_sheet [.ref 0, .int x, .int f, .int n] w o := by
  rcases dI_or x 4 (by decide) with hx | ⟨s, hs, rfl, hx⟩
  · refine am_dex (by omega) rfl rfl ?_
    iterate 3 refine am_g0 rfl rfl ?_
    refine ⟨(some (.int 0), w), d_isWn shC (n := 4) (by omega) hx, ?_⟩
    refine am_to (lv' := [(0, .ref 0), (1, .int x), (2, .int f), (3, .int n)]) (st' := [.int 0]) (w' := w) rfl rfl rfl ?_
    refine am_g0 rfl rfl ?_
    refine am_go rfl ?_
    refine am_g0 rfl rfl ?_
    exact ⟨rfl, by unfold sheetS; rw [hx], by unfold sheetS; rw [hx]; exact h⟩
  · rcases dI_or f 3 (by decide) with hf | ⟨g, hg, rfl, hf⟩
    · refine am_dex (by omega) rfl rfl ?_
      iterate 3 refine am_g0 rfl rfl ?_
      refine ⟨(some (.int 1), w), d_isWs shC (n := 4) (by omega) hs (by decide), ?_⟩
      refine am_to (lv' := [(0, .ref 0), (1, .int (nI s)), (2, .int f), (3, .int n)]) (st' := [.int 1]) (w' := w) rfl rfl rfl ?_
      iterate 4 refine am_g0 rfl rfl ?_
      refine ⟨(some (.int 0), w), d_isWn shC (n := 3) (by omega) hf, ?_⟩
      refine am_to (lv' := [(0, .ref 0), (1, .int (nI s)), (2, .int f), (3, .int n)]) (st' := [.int 0]) (w' := w) rfl rfl rfl ?_
      refine am_g0 rfl rfl ?_
      refine am_go rfl ?_
      refine am_g0 rfl rfl ?_
      exact ⟨rfl, by unfold sheetS; rw [hx, hf], by unfold sheetS; rw [hx, hf]; exact h⟩
    · obtain ⟨s1, s2, s3⟩ := sh_S s hs
      refine am_dex (by omega) rfl rfl ?_
      iterate 3 refine am_g0 rfl rfl ?_
      refine ⟨(some (.int 1), w), d_isWs shC (n := 4) (by omega) hs (by decide), ?_⟩
      refine am_to (lv' := [(0, .ref 0), (1, .int (nI s)), (2, .int (nI g)), (3, .int n)]) (st' := [.int 1]) (w' := w) rfl rfl rfl ?_
      iterate 4 refine am_g0 rfl rfl ?_
      refine ⟨(some (.int 1), w), d_isWs shC (n := 3) (by omega) hg (by decide), ?_⟩
      refine am_to (lv' := [(0, .ref 0), (1, .int (nI s)), (2, .int (nI g)), (3, .int n)]) (st' := [.int 1]) (w' := w) rfl rfl rfl ?_
      iterate 4 refine am_g0 rfl rfl ?_
      by_cases h60 : nI 60 < n
      · refine am_ff (show ¬ (n : Int32) ≤ 60 from by rw [Int32.not_le]; exact h60) ?_
        refine am_go rfl ?_
        refine am_g0 rfl rfl ?_
        exact ⟨rfl, by unfold sheetS; rw [hx, hf]; dsimp only; rw [if_pos h60], by unfold sheetS; rw [hx, hf]; dsimp only; rw [if_pos h60]; exact h⟩
      · refine am_tt (show (n : Int32) ≤ 60 from by rw [← Int32.not_lt]; exact h60) ?_
        refine am_go rfl ?_
        refine am_g0 rfl rfl ?_
        by_cases h0 : n < 0
        · refine am_ff (show ¬ (0 : Int32) ≤ n from by rw [Int32.not_le]; exact h0) ?_
          iterate 3 refine am_g0 rfl rfl ?_
          refine ⟨(some (.int ((-10) - 5)), am_pi w 0 16 5), d_refusal (by omega), ?_⟩
          refine am_to (lv' := [(0, .ref 0), (1, .int (nI s)), (2, .int (nI g)), (3, .int n)]) (st' := [.int ((-10) - 5)]) (w' := am_pi w 0 16 5) rfl rfl rfl ?_
          refine am_g0 rfl rfl ?_
          exact ⟨rfl, by unfold sheetS; rw [hx, hf]; dsimp only; rw [if_neg h60, if_pos h0]; rfl, by unfold sheetS; rw [hx, hf]; dsimp only; rw [if_neg h60, if_pos h0]; exact RC_setF h⟩
        · refine am_tt (show (0 : Int32) ≤ n from by rw [← Int32.not_lt]; exact h0) ?_
          obtain ⟨k, hk, rfl⟩ := nI_of h0
          have hk60 : k ≤ 60 := Decidable.byContradiction fun z => h60 (nI_lt (by omega) hk)
          refine am_to (lv' := [(0, .ref 0), (1, .int (nI s)), (2, .int (nI g)), (3, .int (nI k))]) (st' := []) (w' := w) rfl rfl rfl ?_
          refine am_go rfl ?_
          iterate 3 refine am_g0 rfl rfl ?_
          refine am_ff (show ¬ nI s < 0 from nI_pos (by omega)) (am_oi (a := 25 + s) (by rw [nI_clamp (by omega)]; exact sh_S4 s hs) ?_)
          iterate 3 refine am_g0 rfl rfl ?_
          refine am_ys (show (true && (true && am_isb shC (25 + s) 4)) = true by rw [s1]; rfl) ?_
          refine ⟨(none, cZero (am_pi (am_pi w (25 + s) 1 (nI g)) (25 + s) 2 (nI k)) (29 + s) 60), d_renew (by omega) hs, ?_⟩
          refine am_to (lv' := [(0, .ref 0), (1, .int (nI s)), (2, .int (nI g)), (3, .int (nI k))]) (st' := []) (w' := cZero (am_pi (am_pi w (25 + s) 1 (nI g)) (25 + s) 2 (nI k)) (29 + s) 60) rfl rfl rfl ?_
          iterate 2 refine am_g0 rfl rfl ?_
          have hS : sheetS S (nI s) (nI g) (nI k) = (nI k, S.setH (up1 S.fm s g) (upO S.sz s (some k)) (fun a b => if a = s then 0 else S.it a b)) := by unfold sheetS; rw [hx, hf]; dsimp only; rw [if_neg h60, if_neg h0, nI_clamp hk]
          rw [hS]
          have e : ∀ a, a ≠ 25 + s → a ≠ 29 + s → (cZero (am_pi (am_pi w (25 + s) 1 (nI g)) (25 + s) 2 (nI k)) (29 + s) 60).1 a = w.1 a := fun a h1 h2 => funext fun b => by
            rw [cZero_at, if_neg (fun z => h2 z.1), am_pi_row h1, am_pi_row h1]
          refine ⟨rfl, rfl, RC_setH h (fun a ha => e a (by omega) (by omega)) (cZero_2 _ _ _) (fun c hc => ?_) (fun c hc => ?_)⟩
          · refine ⟨?_, fun m hm => ?_⟩
            · by_cases z : c = s
              · rw [z, up1_at]; exact hg
              · rw [up1_ne z]; exact (h.1.1.2.2.2 c hc).1
            · unfold upO at hm
              by_cases z : c = s
              · rw [if_pos z] at hm; cases hm; exact hk60
              · rw [if_neg z] at hm; exact (h.1.1.2.2.2 c hc).2 m hm
          · show _ = opI (upO S.sz s (some k) c) ∧ ∀ m, upO S.sz s (some k) c = some m → _ = nI (up1 S.fm s g c) ∧ ∀ i, i < m → _ = (if c = s then 0 else S.it c i)
            by_cases z : c = s
            · subst z
              unfold upO
              rw [if_pos rfl, up1_at, cZero_at, if_neg (by omega), am_pi_at]
              refine ⟨rfl, fun m hm => ⟨?_, fun i hi => ?_⟩⟩
              · rw [cZero_at, if_neg (by omega), am_pi_ne (Or.inr (by omega)), am_pi_at]
              · cases hm
                rw [cZero_at, if_pos ⟨rfl, by omega⟩, if_pos rfl]
            · unfold upO
              rw [if_neg z, up1_ne z, e (25 + c) (by omega) (by omega), e (29 + c) (by omega) (by omega)]
              simp only [if_neg z]
              exact h.1.2.2.2.2.2.2.2.1 c hc
theorem d_lose {d : Nat} {x : Int32} {w : am_M} {S : Sp} (hd : 8 ≤ d) (h : RC w S) : ∃ o : am_O, (o.1 = some (.int (loseS S x).1) ∧ RC o.2 (loseS S x).2) ∧ am_D shC d mi_X11_lose [.ref 0, .int x] w o := by
  rcases dI_or x 4 (by decide) with hx | ⟨s, hs, rfl, hx⟩
  · refine am_dex (by omega) rfl rfl ?_
    iterate 3 refine am_g0 rfl rfl ?_
    refine ⟨(some (.int 0), w), d_isWn shC (n := 4) (by omega) hx, ?_⟩
    refine am_to (lv' := [(0, .ref 0), (1, .int x)]) (st' := [.int 0]) (w' := w) rfl rfl rfl ?_
    iterate 3 refine am_g0 rfl rfl ?_
    exact ⟨rfl, by unfold loseS; rw [hx], by unfold loseS; rw [hx]; exact h⟩
  · obtain ⟨s1, s2, s3⟩ := sh_S s hs
    refine am_dex (by omega) rfl rfl ?_
    iterate 3 refine am_g0 rfl rfl ?_
    refine ⟨(some (.int 1), w), d_isWs shC (n := 4) (by omega) hs (by decide), ?_⟩
    refine am_to (lv' := [(0, .ref 0), (1, .int (nI s))]) (st' := [.int 1]) (w' := w) rfl rfl rfl ?_
    refine am_g0 rfl rfl ?_
    refine am_go rfl ?_
    iterate 3 refine am_g0 rfl rfl ?_
    refine am_ff (show ¬ nI s < 0 from nI_pos (by omega)) (am_oi (a := 25 + s) (by rw [nI_clamp (by omega)]; exact sh_S4 s hs) ?_)
    refine am_g0 rfl rfl ?_
    refine am_ys (show (true && (true && am_isb shC (25 + s) 4)) = true by rw [s1]; rfl) ?_
    refine ⟨(some (.int (if w.1 (25 + s) 2 = -1 then 1 else 0)), w), d_isLost (by omega) hs, ?_⟩
    refine am_to (lv' := [(0, .ref 0), (1, .int (nI s))]) (st' := [.int (if w.1 (25 + s) 2 = -1 then 1 else 0)]) (w' := w) rfl rfl rfl ?_
    refine am_g0 rfl rfl ?_
    rcases opt_or (S.sz s) with hz | ⟨n, hz⟩
    · refine am_ff (show ¬ (if w.1 (25 + s) 2 = -1 then 1 else 0 : Int32) = 0 from by rw [if_pos ((h.szn hs).mpr hz)]; exact i10) ?_
      iterate 3 refine am_g0 rfl rfl ?_
      refine ⟨(some (.int ((-10) - 1)), am_pi w 0 16 1), d_refusal (by omega), ?_⟩
      refine am_to (lv' := [(0, .ref 0), (1, .int (nI s))]) (st' := [.int ((-10) - 1)]) (w' := am_pi w 0 16 1) rfl rfl rfl ?_
      refine am_g0 rfl rfl ?_
      exact ⟨rfl, by unfold loseS; rw [hx]; dsimp only; rw [hz]; rfl, by unfold loseS; rw [hx]; dsimp only; rw [hz]; exact RC_setF h⟩
    · refine am_tt (show (if w.1 (25 + s) 2 = -1 then 1 else 0 : Int32) = 0 from by rw [if_neg (fun z => by rw [(h.szn hs).mp z] at hz; cases hz)]) ?_
      refine am_go rfl ?_
      iterate 3 refine am_g0 rfl rfl ?_
      refine am_ff (show ¬ nI s < 0 from nI_pos (by omega)) (am_oi (a := 25 + s) (by rw [nI_clamp (by omega)]; exact sh_S4 s hs) ?_)
      refine am_g0 rfl rfl ?_
      refine am_ys s1 ?_
      refine am_top (y := nI n) (by have := (h.1.2.2.2.2.2.2.2.1 s hs).1; rw [hz] at this; exact this) ?_
      iterate 5 refine am_g0 rfl rfl ?_
      refine am_ff (show ¬ nI s < 0 from nI_pos (by omega)) (am_oi (a := 25 + s) (by rw [nI_clamp (by omega)]; exact sh_S4 s hs) ?_)
      iterate 2 refine am_g0 rfl rfl ?_
      refine am_ys (show (am_isb shC (25 + s) 4 && true) = true by rw [s1]; rfl) ?_
      iterate 2 refine am_g0 rfl rfl ?_
      have hS : loseS S (nI s) = (nI n, S.setH S.fm (upO S.sz s none) S.it) := by unfold loseS; rw [hx]; dsimp only; rw [hz]
      rw [hS]
      refine ⟨rfl, rfl, RC_setH h (fun a ha => am_pi_row (by omega)) rfl (fun c hc => ?_) (fun c hc => ?_)⟩
      · refine ⟨(h.1.1.2.2.2 c hc).1, fun m hm => ?_⟩
        unfold upO at hm
        by_cases z : c = s
        · rw [if_pos z] at hm; cases hm
        · rw [if_neg z] at hm; exact (h.1.1.2.2.2 c hc).2 m hm
      · show _ = opI (upO S.sz s none c) ∧ ∀ m, upO S.sz s none c = some m → _ = nI (S.fm c) ∧ ∀ i, i < m → _ = S.it c i
        unfold upO
        by_cases z : c = s
        · subst z
          rw [if_pos rfl, am_pi_at]
          exact ⟨rfl, fun m hm => by cases hm⟩
        · rw [if_neg z, am_pi_row (by omega), am_pi_row (by omega)]
          exact h.1.2.2.2.2.2.2.2.1 c hc
theorem RCh_put {w : am_M} {S : Sp} {s k : Nat} {x : Int32} (h : RC w S) (hs : s < 4) : RC (am_pi w (29 + s) k x) (S.setH S.fm S.sz (upI S.it s k x)) := by
  refine RC_setH h (fun a ha => am_pi_row (by omega)) rfl (h.1.1.2.2.2) (fun c hc => ?_)
  obtain ⟨a1, a2⟩ := h.1.2.2.2.2.2.2.2.1 c hc
  show (am_pi w (29 + s) k x).1 (25 + c) 2 = opI (S.sz c) ∧ ∀ m, S.sz c = some m → (am_pi w (29 + s) k x).1 (25 + c) 1 = nI (S.fm c) ∧ ∀ i, i < m → (am_pi w (29 + s) k x).1 (29 + c) i = upI S.it s k x c i
  rw [am_pi_row (show 25 + c ≠ 29 + s by omega)]
  refine ⟨a1, fun m hm => ⟨(a2 m hm).1, fun i hi => ?_⟩⟩
  unfold upI
  by_cases z : c = s ∧ i = k
  · rw [if_pos z, z.1, z.2, am_pi_at]
  · rw [if_neg z, am_pi_ne (by omega)]; exact (a2 m hm).2 i hi
theorem d_lay {d : Nat} {x f i v : Int32} {w : am_M} {S : Sp} (hd : 8 ≤ d) (h : RC w S) : ∃ o : am_O, (o.1 = some (.int (layS S x f i v).1) ∧ RC o.2 (layS S x f i v).2) ∧ am_D shC d mi_X11_lay [.ref 0, .int x, .int f, .int i, .int v] w o := by
  rcases dI_or x 4 (by decide) with hx | ⟨s, hs, rfl, hx⟩
  · refine am_dex (by omega) rfl rfl ?_
    iterate 3 refine am_g0 rfl rfl ?_
    refine ⟨(some (.int 0), w), d_isWn shC (n := 4) (by omega) hx, ?_⟩
    refine am_to (lv' := [(0, .ref 0), (1, .int x), (2, .int f), (3, .int i), (4, .int v)]) (st' := [.int 0]) (w' := w) rfl rfl rfl ?_
    refine am_g0 rfl rfl ?_
    refine am_go rfl ?_
    refine am_g0 rfl rfl ?_
    exact ⟨rfl, by unfold layS; rw [hx], by unfold layS; rw [hx]; exact h⟩
  · rcases dI_or f 3 (by decide) with hf | ⟨g, hg, rfl, hf⟩
    · refine am_dex (by omega) rfl rfl ?_
      iterate 3 refine am_g0 rfl rfl ?_
      refine ⟨(some (.int 1), w), d_isWs shC (n := 4) (by omega) hs (by decide), ?_⟩
      refine am_to (lv' := [(0, .ref 0), (1, .int (nI s)), (2, .int f), (3, .int i), (4, .int v)]) (st' := [.int 1]) (w' := w) rfl rfl rfl ?_
      iterate 4 refine am_g0 rfl rfl ?_
      refine ⟨(some (.int 0), w), d_isWn shC (n := 3) (by omega) hf, ?_⟩
      refine am_to (lv' := [(0, .ref 0), (1, .int (nI s)), (2, .int f), (3, .int i), (4, .int v)]) (st' := [.int 0]) (w' := w) rfl rfl rfl ?_
      refine am_g0 rfl rfl ?_
      refine am_go rfl ?_
      refine am_g0 rfl rfl ?_
      exact ⟨rfl, by unfold layS; rw [hx, hf], by unfold layS; rw [hx, hf]; exact h⟩
    · obtain ⟨s1, s2, s3⟩ := sh_S s hs
      refine am_dex (by omega) rfl rfl ?_
      iterate 3 refine am_g0 rfl rfl ?_
      refine ⟨(some (.int 1), w), d_isWs shC (n := 4) (by omega) hs (by decide), ?_⟩
      refine am_to (lv' := [(0, .ref 0), (1, .int (nI s)), (2, .int (nI g)), (3, .int i), (4, .int v)]) (st' := [.int 1]) (w' := w) rfl rfl rfl ?_
      iterate 4 refine am_g0 rfl rfl ?_
      refine ⟨(some (.int 1), w), d_isWs shC (n := 3) (by omega) hg (by decide), ?_⟩
      refine am_to (lv' := [(0, .ref 0), (1, .int (nI s)), (2, .int (nI g)), (3, .int i), (4, .int v)]) (st' := [.int 1]) (w' := w) rfl rfl rfl ?_
      refine am_g0 rfl rfl ?_
      refine am_go rfl ?_
      iterate 3 refine am_g0 rfl rfl ?_
      refine am_ff (show ¬ nI s < 0 from nI_pos (by omega)) (am_oi (a := 25 + s) (by rw [nI_clamp (by omega)]; exact sh_S4 s hs) ?_)
      iterate 3 refine am_g0 rfl rfl ?_
      refine am_ys (show (true && (true && am_isb shC (25 + s) 4)) = true by rw [s1]; rfl) ?_
      rcases cFind_eq (i := i) h hs hg with ⟨r, r0, hr, hc⟩ | ⟨k, n, hr, hz, hkn, hn, hgf, rfl, hc⟩
      · refine ⟨(some (.int r), w), by rw [← hc]; exact d_findingOf (by omega) hs, ?_⟩
        refine am_to (lv' := [(0, .ref 0), (1, .int (nI s)), (2, .int (nI g)), (3, .int i), (4, .int v)]) (st' := [.int r]) (w' := w) rfl rfl rfl ?_
        iterate 3 refine am_g0 rfl rfl ?_
        refine am_ff (show ¬ (r : Int32) = 0 from r0) ?_
        iterate 3 refine am_g0 rfl rfl ?_
        refine ⟨(some (.int ((-10) - r)), am_pi w 0 16 r), d_refusal (by omega), ?_⟩
        refine am_to (lv' := [(0, .ref 0), (1, .int (nI s)), (2, .int (nI g)), (3, .int i), (4, .int v), (5, .int r)]) (st' := [.int ((-10) - r)]) (w' := am_pi w 0 16 r) rfl rfl rfl ?_
        refine am_g0 rfl rfl ?_
        exact ⟨rfl, by unfold layS; rw [hx, hf]; dsimp only; rw [hr], by unfold layS; rw [hx, hf]; dsimp only; rw [hr]; exact RC_setF h⟩
      · refine ⟨(some (.int 0), w), by rw [← hc]; exact d_findingOf (by omega) hs, ?_⟩
        refine am_to (lv' := [(0, .ref 0), (1, .int (nI s)), (2, .int (nI g)), (3, .int (nI k)), (4, .int v)]) (st' := [.int 0]) (w' := w) rfl rfl rfl ?_
        iterate 3 refine am_g0 rfl rfl ?_
        refine am_go rfl ?_
        iterate 3 refine am_g0 rfl rfl ?_
        refine am_ff (show ¬ nI s < 0 from nI_pos (by omega)) (am_oi (a := 25 + s) (by rw [nI_clamp (by omega)]; exact sh_S4 s hs) ?_)
        iterate 3 refine am_g0 rfl rfl ?_
        refine am_ys (show (true && (true && am_isb shC (25 + s) 4)) = true by rw [s1]; rfl) ?_
        refine ⟨(none, am_pi w (29 + s) k (cCut (w.1 (25 + s) 1) v)), d_put (by omega) hs (by omega), ?_⟩
        refine am_to (lv' := [(0, .ref 0), (1, .int (nI s)), (3, .int (nI k)), (4, .int v)]) (st' := []) (w' := am_pi w (29 + s) k (cCut (w.1 (25 + s) 1) v)) rfl rfl rfl ?_
        iterate 2 refine am_g0 rfl rfl ?_
        have hS : layS S (nI s) (nI g) (nI k) v = (1, S.setH S.fm S.sz (upI S.it s k (cCut (nI g) v))) := by unfold layS; rw [hx, hf]; dsimp only; rw [hr]
        rw [hS, ((h.1.2.2.2.2.2.2.2.1 s hs).2 n hz).1, ← hgf]
        exact ⟨rfl, rfl, RCh_put h hs⟩
theorem d_get {d : Nat} {x f i : Int32} {w : am_M} {S : Sp} (hd : 8 ≤ d) (h : RC w S) : ∃ o : am_O, (o.1 = some (.int (getS S x f i).1) ∧ RC o.2 (getS S x f i).2) ∧ am_D shC d mi_X11_get [.ref 0, .int x, .int f, .int i] w o := by
  rcases dI_or x 4 (by decide) with hx | ⟨s, hs, rfl, hx⟩
  · refine am_dex (by omega) rfl rfl ?_
    iterate 3 refine am_g0 rfl rfl ?_
    refine ⟨(some (.int 0), w), d_isWn shC (n := 4) (by omega) hx, ?_⟩
    refine am_to (lv' := [(0, .ref 0), (1, .int x), (2, .int f), (3, .int i)]) (st' := [.int 0]) (w' := w) rfl rfl rfl ?_
    refine am_g0 rfl rfl ?_
    refine am_go rfl ?_
    refine am_g0 rfl rfl ?_
    exact ⟨rfl, by unfold getS; rw [hx], by unfold getS; rw [hx]; exact h⟩
  · rcases dI_or f 3 (by decide) with hf | ⟨g, hg, rfl, hf⟩
    · refine am_dex (by omega) rfl rfl ?_
      iterate 3 refine am_g0 rfl rfl ?_
      refine ⟨(some (.int 1), w), d_isWs shC (n := 4) (by omega) hs (by decide), ?_⟩
      refine am_to (lv' := [(0, .ref 0), (1, .int (nI s)), (2, .int f), (3, .int i)]) (st' := [.int 1]) (w' := w) rfl rfl rfl ?_
      iterate 4 refine am_g0 rfl rfl ?_
      refine ⟨(some (.int 0), w), d_isWn shC (n := 3) (by omega) hf, ?_⟩
      refine am_to (lv' := [(0, .ref 0), (1, .int (nI s)), (2, .int f), (3, .int i)]) (st' := [.int 0]) (w' := w) rfl rfl rfl ?_
      refine am_g0 rfl rfl ?_
      refine am_go rfl ?_
      refine am_g0 rfl rfl ?_
      exact ⟨rfl, by unfold getS; rw [hx, hf], by unfold getS; rw [hx, hf]; exact h⟩
    · obtain ⟨s1, s2, s3⟩ := sh_S s hs
      refine am_dex (by omega) rfl rfl ?_
      iterate 3 refine am_g0 rfl rfl ?_
      refine ⟨(some (.int 1), w), d_isWs shC (n := 4) (by omega) hs (by decide), ?_⟩
      refine am_to (lv' := [(0, .ref 0), (1, .int (nI s)), (2, .int (nI g)), (3, .int i)]) (st' := [.int 1]) (w' := w) rfl rfl rfl ?_
      iterate 4 refine am_g0 rfl rfl ?_
      refine ⟨(some (.int 1), w), d_isWs shC (n := 3) (by omega) hg (by decide), ?_⟩
      refine am_to (lv' := [(0, .ref 0), (1, .int (nI s)), (2, .int (nI g)), (3, .int i)]) (st' := [.int 1]) (w' := w) rfl rfl rfl ?_
      refine am_g0 rfl rfl ?_
      refine am_go rfl ?_
      iterate 3 refine am_g0 rfl rfl ?_
      refine am_ff (show ¬ nI s < 0 from nI_pos (by omega)) (am_oi (a := 25 + s) (by rw [nI_clamp (by omega)]; exact sh_S4 s hs) ?_)
      iterate 3 refine am_g0 rfl rfl ?_
      refine am_ys (show (true && (true && am_isb shC (25 + s) 4)) = true by rw [s1]; rfl) ?_
      rcases cFind_eq (i := i) h hs hg with ⟨r, r0, hr, hc⟩ | ⟨k, n, hr, hz, hkn, hn, hgf, rfl, hc⟩
      · refine ⟨(some (.int r), w), by rw [← hc]; exact d_findingOf (by omega) hs, ?_⟩
        refine am_to (lv' := [(0, .ref 0), (1, .int (nI s)), (2, .int (nI g)), (3, .int i)]) (st' := [.int r]) (w' := w) rfl rfl rfl ?_
        iterate 3 refine am_g0 rfl rfl ?_
        refine am_ff (show ¬ (r : Int32) = 0 from r0) ?_
        iterate 5 refine am_g0 rfl rfl ?_
        exact ⟨rfl, by unfold getS; rw [hx, hf]; dsimp only; rw [hr], by unfold getS; rw [hx, hf]; dsimp only; rw [hr]; exact RC_setF h⟩
      · refine ⟨(some (.int 0), w), by rw [← hc]; exact d_findingOf (by omega) hs, ?_⟩
        refine am_to (lv' := [(0, .ref 0), (1, .int (nI s)), (2, .int (nI g)), (3, .int (nI k))]) (st' := [.int 0]) (w' := w) rfl rfl rfl ?_
        iterate 3 refine am_g0 rfl rfl ?_
        refine am_go rfl ?_
        iterate 3 refine am_g0 rfl rfl ?_
        refine am_ff (show ¬ nI s < 0 from nI_pos (by omega)) (am_oi (a := 25 + s) (by rw [nI_clamp (by omega)]; exact sh_S4 s hs) ?_)
        refine am_g0 rfl rfl ?_
        refine am_ys s1 (am_oi s2 ?_)
        refine am_g0 rfl rfl ?_
        refine am_glE (k := k) rfl s3 (rfl) (by omega) (by decide) ?_
        refine am_g0 rfl rfl ?_
        have hS : getS S (nI s) (nI g) (nI k) = (S.it s k, S) := by unfold getS; rw [hx, hf]; dsimp only; rw [hr]
        rw [hS, ((h.1.2.2.2.2.2.2.2.1 s hs).2 n hz).2 k hkn]
        exact ⟨rfl, rfl, h⟩
