/-! type, wipe, undo, fault, cell, last, person: the class -/
/-- a number within, or none -/
def dI (x : Int32) (n : Nat) : Option Nat := if x < 0 ∨ nI n ≤ x then none else some x.toNatClampNeg
theorem dI_f {x : Int32} {n : Nat} (h : x < 0 ∨ nI n ≤ x) : dI x n = none := by unfold dI; rw [if_pos h]
theorem dI_t {j n : Nat} (h : j < n) (hn : n < 2 ^ 31) : dI (nI j) n = some j := by
  unfold dI
  rw [if_neg (fun z => z.elim (nI_pos (by omega)) (nI_ge h hn)), nI_clamp (by omega)]
theorem dI_or (x : Int32) (n : Nat) (hn : n < 2 ^ 31) : dI x n = none ∨ ∃ j, j < n ∧ x = nI j ∧ dI x n = some j := by
  rcases am_wi x n hn with ⟨j, hj, rfl⟩ | h
  · exact Or.inr ⟨j, hj, rfl, dI_t hj hn⟩
  · exact Or.inl (dI_f h)
theorem dI_fi {x : Int32} {n : Nat} (h : dI x n = none) : x < 0 ∨ nI n ≤ x := by
  unfold dI at h
  by_cases z : x < 0 ∨ nI n ≤ x
  · exact z
  · rw [if_neg z] at h; cases h
theorem d_isWn (sh : List am_S) {d n : Nat} {x : Int32} {w : am_M} (hd : 1 ≤ d) (h : dI x n = none) : am_D sh d mi_X11_isWithin [.int x, .int (nI n)] w (some (.int 0), w) := d_isWithin_f sh hd (dI_fi h) w
theorem d_isWs (sh : List am_S) {d n j : Nat} {w : am_M} (hd : 1 ≤ d) (hj : j < n) (hn : n < 2 ^ 31) : am_D sh d mi_X11_isWithin [.int (nI j), .int (nI n)] w (some (.int 1), w) := d_isWithin_t sh hd hj hn w
theorem sh_T3 (t : Nat) (ht : t < 3) : ([2, 3, 4] : List Nat)[t]? = some (2 + t) := by
  match t, ht with
  | 0, _ => rfl
  | 1, _ => rfl
  | 2, _ => rfl
def Sp.setT (S : Sp) (tl : Nat → Nat) (tb : Nat → Nat → Nat) : Sp := (tl, tb, S.2.2)
def Sp.setR (S : Sp) (n : Nat) (rs : Nat → Nat) : Sp := (S.1, S.2.1, (n, rs), S.2.2.2)
def Sp.setS (S : Sp) (n : Nat) (st pe ce : Nat → Nat) : Sp := (S.1, S.2.1, S.2.2.1, (n, st, pe, ce), S.2.2.2.2)
def Sp.setH (S : Sp) (fm : Nat → Nat) (sz : Nat → Option Nat) (it : Nat → Nat → Int32) : Sp := (S.1, S.2.1, S.2.2.1, S.2.2.2.1, (fm, sz, it), S.2.2.2.2.2)
def Sp.setF (S : Sp) (x : Int32) : Sp := (S.1, S.2.1, S.2.2.1, S.2.2.2.1, S.2.2.2.2.1, x)
theorem up1_at (f : Nat → Nat) (k v : Nat) : up1 f k v k = v := by unfold up1; rw [if_pos rfl]
theorem up1_ne {f : Nat → Nat} {k v i : Nat} (h : i ≠ k) : up1 f k v i = f i := by unfold up1; rw [if_neg h]
theorem RCx_of {w w1 : am_M} {S : Sp} {t : Nat} {tl : Nat → Nat} {tb : Nat → Nat → Nat} (h : RC w S) (ht : t < 3) (e : ∀ a, a ≠ 2 + t → a ≠ 5 + t → w1.1 a = w.1 a) (e1 : w1.1 (2 + t) 1 = w.1 (2 + t) 1) (hl : ∀ k, k ≠ t → tl k = S.tl k ∧ tb k = S.tb k) (hm : tl t ≤ mxT t) (hc : cText w1 t (tl t) (tb t)) : RCx w1 (S.setT tl tb) t := by
  obtain ⟨⟨h1, h2, h3, h4, h5, h6, h7, h8, h9⟩, -⟩ := h
  refine ⟨⟨fun k hk => ?_, h1.2.1, h1.2.2.1, h1.2.2.2⟩, fun k hk => ?_, fun z => ?_, fun z => ?_, fun z => ?_, h6.fr (fun a _ _ => e a (by omega) (by omega)), h7.fr (fun a _ _ => e a (by omega) (by omega)), h8.fr (fun a _ _ => e a (by omega) (by omega)), by rw [e 0 (by omega) (by omega)]; exact h9⟩
  · show tl k ≤ mxT k ∧ ∀ i, i < tl k → tb k i < 256
    by_cases z : k = t
    · subst z; exact ⟨hm, fun i hi => (hc.2.2 i hi).2⟩
    · rw [(hl k z).1, (hl k z).2]; exact h1.1 k hk
  · show cText w1 k (tl k) (tb k) ∧ w1.1 (2 + k) 1 = nI (mxT k)
    by_cases z : k = t
    · subst z; exact ⟨hc, e1.trans (h2 k hk).2⟩
    · rw [(hl k z).1, (hl k z).2, e (2 + k) (by omega) (by omega)]
      exact ⟨(h2 k hk).1.fr (e _ (by omega) (by omega)) (e _ (by omega) (by omega)), (h2 k hk).2⟩
  · show tnOK w1 (tb 0) (tl 0)
    rw [(hl 0 (by omega)).1, (hl 0 (by omega)).2]; exact h3.fr (fun a _ _ => e a (by omega) (by omega))
  · show lsOK w1 (tb 1) (tl 1)
    rw [(hl 1 (by omega)).1, (hl 1 (by omega)).2]; exact h4.fr (fun a _ _ => e a (by omega) (by omega)) (by rw [e 8 (by omega) (by omega)])
  · show ppOK w1 (tb 2) (tl 2)
    rw [(hl 2 (by omega)).1, (hl 2 (by omega)).2]; exact h5.fr (fun a _ _ => e a (by omega) (by omega)) (by rw [e 8 (by omega) (by omega)])
def typeS (S : Sp) (x y : Int32) : Int32 × Sp := match dI x 3, dI y 256 with
  | some t, some b => if S.tl t = mxT t then (-4, S) else (nI (S.tl t + 1), S.setT (up1 S.tl t (S.tl t + 1)) (up2 S.tb t (S.tl t) b))
  | _, _ => (-2, S)
def wipeS (S : Sp) (x : Int32) : Int32 × Sp := match dI x 3 with
  | some t => (nI (S.tl t), S.setT (up1 S.tl t 0) S.tb)
  | none => (-2, S)
def undoS (S : Sp) (x : Int32) : Int32 × Sp := match dI x 3 with
  | some t => if S.tl t = 0 then (-3, S) else (nI (S.tl t - 1), S.setT (up1 S.tl t (S.tl t - 1)) S.tb)
  | none => (-2, S)
theorem d_type {d : Nat} {x y : Int32} {w : am_M} {S : Sp} (hd : 8 ≤ d) (h : RC w S) : ∃ o : am_O, (o.1 = some (.int (typeS S x y).1) ∧ RC o.2 (typeS S x y).2) ∧ am_D shC d mi_X11_type [.ref 0, .int x, .int y] w o := by
  rcases dI_or x 3 (by decide) with hx | ⟨t, ht, rfl, hx⟩
  · refine am_dex (by omega) rfl rfl ?_
    iterate 3 refine am_g0 rfl rfl ?_
    refine ⟨(some (.int 0), w), d_isWn shC (n := 3) (by omega) hx, ?_⟩
    refine am_to (lv' := [(0, .ref 0), (1, .int x), (2, .int y)]) (st' := [.int 0]) (w' := w) rfl rfl rfl ?_
    refine am_g0 rfl rfl ?_
    refine am_go rfl ?_
    refine am_g0 rfl rfl ?_
    exact ⟨rfl, by unfold typeS; rw [hx], by unfold typeS; rw [hx]; exact h⟩
  · rcases dI_or y 256 (by decide) with hy | ⟨b, hb, rfl, hy⟩
    · refine am_dex (by omega) rfl rfl ?_
      iterate 3 refine am_g0 rfl rfl ?_
      refine ⟨(some (.int 1), w), d_isWs shC (n := 3) (by omega) ht (by decide), ?_⟩
      refine am_to (lv' := [(0, .ref 0), (1, .int (nI t)), (2, .int y)]) (st' := [.int 1]) (w' := w) rfl rfl rfl ?_
      iterate 4 refine am_g0 rfl rfl ?_
      refine ⟨(some (.int 0), w), d_isWn shC (n := 256) (by omega) hy, ?_⟩
      refine am_to (lv' := [(0, .ref 0), (1, .int (nI t)), (2, .int y)]) (st' := [.int 0]) (w' := w) rfl rfl rfl ?_
      refine am_g0 rfl rfl ?_
      refine am_go rfl ?_
      refine am_g0 rfl rfl ?_
      exact ⟨rfl, by unfold typeS; rw [hx, hy], by unfold typeS; rw [hx, hy]; exact h⟩
    · obtain ⟨s1, s2, s3⟩ := sh_T t ht
      obtain ⟨hT, hM⟩ := h.1.2.1 t ht
      have hle := (h.1.1.1 t ht).1
      have hmx := mxT_le t
      refine am_dex (by omega) rfl rfl ?_
      iterate 3 refine am_g0 rfl rfl ?_
      refine ⟨(some (.int 1), w), d_isWs shC (n := 3) (by omega) ht (by decide), ?_⟩
      refine am_to (lv' := [(0, .ref 0), (1, .int (nI t)), (2, .int (nI b))]) (st' := [.int 1]) (w' := w) rfl rfl rfl ?_
      iterate 4 refine am_g0 rfl rfl ?_
      refine ⟨(some (.int 1), w), d_isWs shC (n := 256) (by omega) hb (by decide), ?_⟩
      refine am_to (lv' := [(0, .ref 0), (1, .int (nI t)), (2, .int (nI b))]) (st' := [.int 1]) (w' := w) rfl rfl rfl ?_
      refine am_g0 rfl rfl ?_
      refine am_go rfl ?_
      iterate 3 refine am_g0 rfl rfl ?_
      refine am_ff (show ¬ nI t < 0 from nI_pos (by omega)) (am_oi (a := 2 + t) (by rw [nI_clamp (by omega)]; exact sh_T3 t ht) ?_)
      iterate 2 refine am_g0 rfl rfl ?_
      refine am_ys (show (true && (true && am_isb shC (2 + t) 7)) = true by rw [s1]; rfl) ?_
      by_cases hf : S.tl t = mxT t
      · refine ⟨(some (.int 0), w), d_append_f (by omega) ht hT.1 hM (by omega) (by omega), ?_⟩
        refine am_to (lv' := [(0, .ref 0), (1, .int (nI t)), (2, .int (nI b))]) (st' := [.int 0]) (w' := w) rfl rfl rfl ?_
        iterate 3 refine am_g0 rfl rfl ?_
        exact ⟨rfl, by unfold typeS; rw [hx, hy]; dsimp only; rw [if_pos hf], by unfold typeS; rw [hx, hy]; dsimp only; rw [if_pos hf]; exact h⟩
      · refine ⟨(some (.int 1), am_pi (am_pi w (5 + t) (S.tl t) (nI b)) (2 + t) 2 (nI (S.tl t + 1))), d_append_t (by omega) ht hT.1 hM (by omega) (by omega), ?_⟩
        refine am_to (lv' := [(0, .ref 0), (1, .int (nI t)), (2, .int (nI b))]) (st' := [.int 1]) (w' := am_pi (am_pi w (5 + t) (S.tl t) (nI b)) (2 + t) 2 (nI (S.tl t + 1))) rfl rfl rfl ?_
        have hS : typeS S (nI t) (nI b) = (nI (S.tl t + 1), S.setT (up1 S.tl t (S.tl t + 1)) (up2 S.tb t (S.tl t) b)) := by unfold typeS; rw [hx, hy]; dsimp only; rw [if_neg hf]
        rw [hS]
        have hc : cText (am_pi (am_pi w (5 + t) (S.tl t) (nI b)) (2 + t) 2 (nI (S.tl t + 1))) t (up1 S.tl t (S.tl t + 1) t) (up2 S.tb t (S.tl t) b t) := by
          rw [up1_at]
          refine ⟨am_pi_at _ _ _ _, by omega, fun i hi => ?_⟩
          rw [am_pi_ne (Or.inl (by omega))]
          unfold up2
          by_cases z : i = S.tl t
          · rw [if_pos ⟨rfl, z⟩, z, am_pi_at]; exact ⟨rfl, hb⟩
          · rw [if_neg (fun q => z q.2), am_pi_ne (Or.inr z)]; exact hT.2.2 i (by omega)
        have hX := RCx_of (w1 := am_pi (am_pi w (5 + t) (S.tl t) (nI b)) (2 + t) 2 (nI (S.tl t + 1))) (tl := up1 S.tl t (S.tl t + 1)) (tb := up2 S.tb t (S.tl t) b) h ht (fun a h1 h2 => by rw [am_pi_row h1, am_pi_row h2]) (by rw [am_pi_ne (Or.inr (by omega)), am_pi_ne (Or.inl (by omega))]) (fun k hk => ⟨up1_ne hk, funext fun i => by unfold up2; rw [if_neg (fun q => hk q.1)]⟩) (by rw [up1_at]; omega) hc
        refine am_g0 rfl rfl ?_
        refine am_go rfl ?_
        iterate 2 refine am_g0 rfl rfl ?_
        obtain ⟨⟨r1, w1⟩, ⟨e1, g1, g2⟩, hD1⟩ := d_reload (d := d - 1) (by omega) ht hX
        dsimp only at e1 g1 g2
        subst e1
        refine ⟨(none, w1), hD1, ?_⟩
        refine am_to (lv' := [(0, .ref 0), (1, .int (nI t))]) (st' := []) (w' := w1) rfl rfl rfl ?_
        iterate 4 refine am_g0 rfl rfl ?_
        refine am_ff (show ¬ nI t < 0 from nI_pos (by omega)) (am_oi (a := 2 + t) (by rw [nI_clamp (by omega)]; exact sh_T3 t ht) ?_)
        refine am_g0 rfl rfl ?_
        refine am_ys s1 ?_
        refine am_g0 rfl rfl ?_
        have e9 : w1.1 (2 + t) 2 = nI (S.tl t + 1) := by rw [g2 (2 + t) (by omega) (by omega), am_pi_at]
        rw [e9]
        exact ⟨rfl, rfl, g1⟩
theorem d_wipe {d : Nat} {x : Int32} {w : am_M} {S : Sp} (hd : 8 ≤ d) (h : RC w S) : ∃ o : am_O, (o.1 = some (.int (wipeS S x).1) ∧ RC o.2 (wipeS S x).2) ∧ am_D shC d mi_X11_wipe [.ref 0, .int x] w o := by
  rcases dI_or x 3 (by decide) with hx | ⟨t, ht, rfl, hx⟩
  · refine am_dex (by omega) rfl rfl ?_
    iterate 3 refine am_g0 rfl rfl ?_
    refine ⟨(some (.int 0), w), d_isWn shC (n := 3) (by omega) hx, ?_⟩
    refine am_to (lv' := [(0, .ref 0), (1, .int x)]) (st' := [.int 0]) (w' := w) rfl rfl rfl ?_
    iterate 3 refine am_g0 rfl rfl ?_
    exact ⟨rfl, by unfold wipeS; rw [hx], by unfold wipeS; rw [hx]; exact h⟩
  · obtain ⟨s1, s2, s3⟩ := sh_T t ht
    obtain ⟨hT, hM⟩ := h.1.2.1 t ht
    refine am_dex (by omega) rfl rfl ?_
    iterate 3 refine am_g0 rfl rfl ?_
    refine ⟨(some (.int 1), w), d_isWs shC (n := 3) (by omega) ht (by decide), ?_⟩
    refine am_to (lv' := [(0, .ref 0), (1, .int (nI t))]) (st' := [.int 1]) (w' := w) rfl rfl rfl ?_
    refine am_g0 rfl rfl ?_
    refine am_go rfl ?_
    iterate 3 refine am_g0 rfl rfl ?_
    refine am_ff (show ¬ nI t < 0 from nI_pos (by omega)) (am_oi (a := 2 + t) (by rw [nI_clamp (by omega)]; exact sh_T3 t ht) ?_)
    refine am_g0 rfl rfl ?_
    refine am_ys s1 ?_
    refine am_top (y := nI (S.tl t)) (hT.1) ?_
    iterate 5 refine am_g0 rfl rfl ?_
    refine am_ff (show ¬ nI t < 0 from nI_pos (by omega)) (am_oi (a := 2 + t) (by rw [nI_clamp (by omega)]; exact sh_T3 t ht) ?_)
    iterate 2 refine am_g0 rfl rfl ?_
    refine am_ys (show (am_isb shC (2 + t) 7 && true) = true by rw [s1]; rfl) ?_
    iterate 2 refine am_g0 rfl rfl ?_
    refine am_to (lv' := [(0, .ref 0), (1, .int (nI t)), (2, .int (nI (S.tl t)))]) (st' := [.int (nI t), .ref 0]) (w' := am_pi w (2 + t) 2 0) rfl rfl rfl ?_
    have hS : wipeS S (nI t) = (nI (S.tl t), S.setT (up1 S.tl t 0) S.tb) := by unfold wipeS; rw [hx]
    rw [hS]
    have hX := RCx_of (w1 := am_pi w (2 + t) 2 0) (tl := up1 S.tl t 0) (tb := S.tb) h ht (fun a h1 h2 => by rw [am_pi_row h1]) (by rw [am_pi_ne (Or.inr (by omega))]) (fun k hk => ⟨up1_ne hk, rfl⟩) (by rw [up1_at]; omega) (by rw [up1_at]; exact ⟨am_pi_at _ _ _ _, by omega, fun i hi => absurd hi (Nat.not_lt_zero i)⟩)
    refine am_g0 rfl rfl ?_
    obtain ⟨⟨r1, w1⟩, ⟨e1, g1, g2⟩, hD1⟩ := d_reload (d := d - 1) (by omega) ht hX
    dsimp only at e1 g1 g2
    subst e1
    refine ⟨(none, w1), hD1, ?_⟩
    refine am_to (lv' := [(0, .ref 0), (1, .int (nI t)), (2, .int (nI (S.tl t)))]) (st' := []) (w' := w1) rfl rfl rfl ?_
    iterate 2 refine am_g0 rfl rfl ?_
    exact ⟨rfl, rfl, g1⟩
theorem d_undo {d : Nat} {x : Int32} {w : am_M} {S : Sp} (hd : 8 ≤ d) (h : RC w S) : ∃ o : am_O, (o.1 = some (.int (undoS S x).1) ∧ RC o.2 (undoS S x).2) ∧ am_D shC d mi_X11_undo [.ref 0, .int x] w o := by
  rcases dI_or x 3 (by decide) with hx | ⟨t, ht, rfl, hx⟩
  · refine am_dex (by omega) rfl rfl ?_
    iterate 3 refine am_g0 rfl rfl ?_
    refine ⟨(some (.int 0), w), d_isWn shC (n := 3) (by omega) hx, ?_⟩
    refine am_to (lv' := [(0, .ref 0), (1, .int x)]) (st' := [.int 0]) (w' := w) rfl rfl rfl ?_
    iterate 3 refine am_g0 rfl rfl ?_
    exact ⟨rfl, by unfold undoS; rw [hx], by unfold undoS; rw [hx]; exact h⟩
  · obtain ⟨s1, s2, s3⟩ := sh_T t ht
    obtain ⟨hT, hM⟩ := h.1.2.1 t ht
    have hle := (h.1.1.1 t ht).1
    have hmx := mxT_le t
    refine am_dex (by omega) rfl rfl ?_
    iterate 3 refine am_g0 rfl rfl ?_
    refine ⟨(some (.int 1), w), d_isWs shC (n := 3) (by omega) ht (by decide), ?_⟩
    refine am_to (lv' := [(0, .ref 0), (1, .int (nI t))]) (st' := [.int 1]) (w' := w) rfl rfl rfl ?_
    refine am_g0 rfl rfl ?_
    refine am_go rfl ?_
    iterate 3 refine am_g0 rfl rfl ?_
    refine am_ff (show ¬ nI t < 0 from nI_pos (by omega)) (am_oi (a := 2 + t) (by rw [nI_clamp (by omega)]; exact sh_T3 t ht) ?_)
    refine am_g0 rfl rfl ?_
    refine am_ys s1 ?_
    refine am_g0 rfl rfl ?_
    by_cases h0 : S.tl t = 0
    · refine am_tt (show (w.1 (2 + t) 2 : Int32) = 0 from by rw [hT.1, h0]; rfl) ?_
      iterate 2 refine am_g0 rfl rfl ?_
      exact ⟨rfl, by unfold undoS; rw [hx]; dsimp only; rw [if_pos h0], by unfold undoS; rw [hx]; dsimp only; rw [if_pos h0]; exact h⟩
    · refine am_ff (show ¬ (w.1 (2 + t) 2 : Int32) = 0 from by rw [hT.1]; exact nI_ne0 (by omega) (by omega)) ?_
      refine am_go rfl ?_
      iterate 3 refine am_g0 rfl rfl ?_
      refine am_ff (show ¬ nI t < 0 from nI_pos (by omega)) (am_oi (a := 2 + t) (by rw [nI_clamp (by omega)]; exact sh_T3 t ht) ?_)
      iterate 2 refine am_g0 rfl rfl ?_
      refine am_ys s1 ?_
      iterate 2 refine am_g0 rfl rfl ?_
      refine am_top (y := nI (S.tl t - 1)) (by rw [hT.1]; exact pk_sub (b := 1) (by omega)) ?_
      refine am_g0 rfl rfl ?_
      refine am_ys (show (am_isb shC (2 + t) 7 && true) = true by rw [s1]; rfl) ?_
      iterate 2 refine am_g0 rfl rfl ?_
      refine am_to (lv' := [(0, .ref 0), (1, .int (nI t))]) (st' := [.int (nI t), .ref 0]) (w' := am_pi w (2 + t) 2 (nI (S.tl t - 1))) rfl rfl rfl ?_
      have hS : undoS S (nI t) = (nI (S.tl t - 1), S.setT (up1 S.tl t (S.tl t - 1)) S.tb) := by unfold undoS; rw [hx]; dsimp only; rw [if_neg h0]
      rw [hS]
      have hX := RCx_of (w1 := am_pi w (2 + t) 2 (nI (S.tl t - 1))) (tl := up1 S.tl t (S.tl t - 1)) (tb := S.tb) h ht (fun a h1 h2 => by rw [am_pi_row h1]) (by rw [am_pi_ne (Or.inr (by omega))]) (fun k hk => ⟨up1_ne hk, rfl⟩) (by rw [up1_at]; omega) (by rw [up1_at]; exact ⟨am_pi_at _ _ _ _, by omega, fun i hi => by rw [am_pi_row (by omega)]; exact hT.2.2 i (by omega)⟩)
      refine am_g0 rfl rfl ?_
      obtain ⟨⟨r1, w1⟩, ⟨e1, g1, g2⟩, hD1⟩ := d_reload (d := d - 1) (by omega) ht hX
      dsimp only at e1 g1 g2
      subst e1
      refine ⟨(none, w1), hD1, ?_⟩
      refine am_to (lv' := [(0, .ref 0), (1, .int (nI t))]) (st' := []) (w' := w1) rfl rfl rfl ?_
      iterate 4 refine am_g0 rfl rfl ?_
      refine am_ff (show ¬ nI t < 0 from nI_pos (by omega)) (am_oi (a := 2 + t) (by rw [nI_clamp (by omega)]; exact sh_T3 t ht) ?_)
      refine am_g0 rfl rfl ?_
      refine am_ys s1 ?_
      refine am_g0 rfl rfl ?_
      have e9 : w1.1 (2 + t) 2 = nI (S.tl t - 1) := by rw [g2 (2 + t) (by omega) (by omega), am_pi_at]
      rw [e9]
      exact ⟨rfl, rfl, g1⟩
def faultS (S : Sp) (x : Int32) : Int32 := match dI x 3 with
  | some t => opI (fltS S t)
  | none => -2
theorem d_fault {d : Nat} {x : Int32} {w : am_M} {S : Sp} (hd : 2 ≤ d) (h : RC w S) : am_D shC d mi_X11_fault [.ref 0, .int x] w (some (.int (faultS S x)), w) := by
  rcases dI_or x 3 (by decide) with hx | ⟨t, ht, rfl, hx⟩
  · refine am_def (by omega) rfl rfl ?_
    iterate 3 refine am_g0 rfl rfl ?_
    refine ⟨(some (.int 0), w), d_isWn shC (n := 3) (by omega) hx, ?_⟩
    refine am_to (lv' := [(0, .ref 0), (1, .int x)]) (st' := [.int 0]) (w' := w) rfl rfl rfl ?_
    refine am_g0 rfl rfl ?_
    refine am_go rfl ?_
    refine am_go rfl ?_
    exact ⟨rfl, by unfold faultS; rw [hx]⟩
  · refine am_def (by omega) rfl rfl ?_
    iterate 3 refine am_g0 rfl rfl ?_
    refine ⟨(some (.int 1), w), d_isWs shC (n := 3) (by omega) ht (by decide), ?_⟩
    refine am_to (lv' := [(0, .ref 0), (1, .int (nI t))]) (st' := [.int 1]) (w' := w) rfl rfl rfl ?_
    iterate 4 refine am_g0 rfl rfl ?_
    refine am_glN (n := 3) (k := t) rfl rfl (by omega) (by decide) ?_
    refine am_g0 rfl rfl ?_
    refine am_go rfl ?_
    refine ⟨rfl, ?_⟩
    unfold faultS
    rw [hx]
    dsimp only
    have : w.1 8 t = opI (fltS S t) := by
      match t, ht with
      | 0, _ => exact h.1.2.2.1.2
      | 1, _ => exact h.1.2.2.2.1.2
      | 2, _ => exact h.1.2.2.2.2.1.2
    rw [this]
def kindA (S : Sp) (c : Nat) : Int32 := if c < S.V.1 then nI (S.V.2.1 c) else -1
def cellS (S : Sp) (x : Int32) : Int32 := match dI x 36 with
  | some c => kindA S c
  | none => -2
theorem d_kindOf {d c : Nat} {w : am_M} {S : Sp} (hd : 2 ≤ d) (h : RC w S) (hc : c < 36) : am_D shC d mi_X8_kindOf [.ref 9, .int (nI c)] w (some (.int (kindA S c)), w) := by
  have hT := h.1.V.1
  have h36 : S.V.1 ≤ 36 := hT.2.1
  refine am_def (by omega) rfl rfl ?_
  iterate 3 refine am_g0 rfl rfl ?_
  refine am_top (y := nI S.V.1) (hT.1) ?_
  refine am_g0 rfl rfl ?_
  by_cases hn : c < S.V.1
  · refine ⟨(some (.int 1), w), d_isWs shC (by omega) hn (by omega), ?_⟩
    refine am_to (lv' := [(0, .ref 9), (1, .int (nI c))]) (st' := [.int 1]) (w' := w) rfl rfl rfl ?_
    iterate 4 refine am_g0 rfl rfl ?_
    refine am_glN (n := 36) (k := c) rfl rfl (by omega) (by decide) ?_
    refine am_g0 rfl rfl ?_
    refine am_go rfl ?_
    exact ⟨rfl, by unfold kindA; rw [if_pos hn, (hT.2.2.1 c hn).1]⟩
  · refine ⟨(some (.int 0), w), d_isWithin_f shC (by omega) (Or.inr (nI_le (by omega) (by omega))) w, ?_⟩
    refine am_to (lv' := [(0, .ref 9), (1, .int (nI c))]) (st' := [.int 0]) (w' := w) rfl rfl rfl ?_
    refine am_g0 rfl rfl ?_
    refine am_go rfl ?_
    refine am_go rfl ?_
    exact ⟨rfl, by unfold kindA; rw [if_neg hn]⟩
theorem d_cell {d : Nat} {x : Int32} {w : am_M} {S : Sp} (hd : 3 ≤ d) (h : RC w S) : am_D shC d mi_X11_cell [.ref 0, .int x] w (some (.int (cellS S x)), w) := by
  rcases dI_or x 36 (by decide) with hx | ⟨t, ht, rfl, hx⟩
  · refine am_def (by omega) rfl rfl ?_
    iterate 3 refine am_g0 rfl rfl ?_
    refine ⟨(some (.int 0), w), d_isWn shC (n := 36) (by omega) hx, ?_⟩
    refine am_to (lv' := [(0, .ref 0), (1, .int x)]) (st' := [.int 0]) (w' := w) rfl rfl rfl ?_
    refine am_g0 rfl rfl ?_
    refine am_go rfl ?_
    refine am_go rfl ?_
    exact ⟨rfl, by unfold cellS; rw [hx]⟩
  · refine am_def (by omega) rfl rfl ?_
    iterate 3 refine am_g0 rfl rfl ?_
    refine ⟨(some (.int 1), w), d_isWs shC (n := 36) (by omega) ht (by decide), ?_⟩
    refine am_to (lv' := [(0, .ref 0), (1, .int (nI t))]) (st' := [.int 1]) (w' := w) rfl rfl rfl ?_
    iterate 5 refine am_g0 rfl rfl ?_
    refine ⟨(some (.int (kindA S t)), w), d_kindOf (by omega) h ht, ?_⟩
    refine am_to (lv' := [(0, .ref 0), (1, .int (nI t))]) (st' := [.int (kindA S t)]) (w' := w) rfl rfl rfl ?_
    refine am_g0 rfl rfl ?_
    refine am_go rfl ?_
    exact ⟨rfl, by unfold cellS; rw [hx]⟩
def lastA (S : Sp) (l j : Nat) : Int32 := if j = 0 then nI (S.V.2.2.2.2.1 l) else if j = 1 then nI (S.V.2.2.2.2.2.1 l) else if j - 2 < S.V.2.2.2.2.2.1 l then nI (S.V.2.2.2.2.2.2 l (j - 2)) else -1
def lastS (S : Sp) (x y : Int32) : Int32 := match dI x S.m, dI y 6 with
  | some l, some j => lastA S l j
  | _, _ => -2
theorem d_ltold {d l j : Nat} {w : am_M} {S : Sp} (hd : 1 ≤ d) (h : RC w S) (hl : l < S.m) (hj : j < 6) : am_D shC d mi_X0_told [.ref 12, .int (nI l), .int (nI j)] w (some (.int (lastA S l j)), w) := by
  obtain ⟨h1, h2, h3⟩ := h.1.V.2
  obtain ⟨e1, e2, e3, e4, e5, e6⟩ := h3 l hl
  have hm : S.m ≤ 8 := h2
  refine am_def (by omega) rfl rfl ?_
  iterate 2 refine am_g0 rfl rfl ?_
  by_cases j0 : j = 0
  · refine am_tt (show (nI j : Int32) = 0 from by rw [j0]; rfl) ?_
    iterate 3 refine am_g0 rfl rfl ?_
    refine am_glN (n := 8) (k := l) rfl rfl (by omega) (by decide) ?_
    refine am_g0 rfl rfl ?_
    exact ⟨rfl, by unfold lastA; rw [if_pos j0, e1]⟩
  · refine am_ff (show ¬ (nI j : Int32) = 0 from nne (b := 0) j0 (by omega) (by omega)) ?_
    refine am_go rfl ?_
    iterate 2 refine am_g0 rfl rfl ?_
    by_cases j1 : j = 1
    · refine am_tt (show (nI j : Int32) = 1 from by rw [j1]; rfl) ?_
      iterate 3 refine am_g0 rfl rfl ?_
      refine am_glN (n := 8) (k := l) rfl rfl (by omega) (by decide) ?_
      refine am_g0 rfl rfl ?_
      exact ⟨rfl, by unfold lastA; rw [if_neg j0, if_pos j1, e3]⟩
    · refine am_ff (show ¬ (nI j : Int32) = 1 from nne (b := 1) j1 (by omega) (by omega)) ?_
      refine am_go rfl ?_
      iterate 2 refine am_g0 rfl rfl ?_
      refine am_top (y := nI (j - 2)) (pk_sub (b := 2) (by omega)) ?_
      iterate 5 refine am_g0 rfl rfl ?_
      refine am_glN (n := 8) (k := l) rfl rfl (by omega) (by decide) ?_
      refine am_top (y := nI (S.V.2.2.2.2.2.1 l)) (e3) ?_
      refine am_g0 rfl rfl ?_
      by_cases hlt : j - 2 < S.V.2.2.2.2.2.1 l
      · refine am_ff (show ¬ (nI (S.V.2.2.2.2.2.1 l) : Int32) ≤ (nI (j - 2)) from nI_ge hlt (by omega)) ?_
        iterate 7 refine am_g0 rfl rfl ?_
        refine am_glE (n := 32) (k := 4 * l + (j - 2)) rfl rfl (by rw [show (4 : Int32) = nI 4 from rfl, pk_mul, nI_add, Nat.mul_comm]) (by omega) (by decide) ?_
        refine am_g0 rfl rfl ?_
        refine am_go rfl ?_
        exact ⟨rfl, by unfold lastA; rw [if_neg j0, if_neg j1, if_pos hlt, (e6 _ hlt).1]⟩
      · refine am_tt (show (nI (S.V.2.2.2.2.2.1 l) : Int32) ≤ (nI (j - 2)) from nI_le (by omega) (by omega)) ?_
        refine am_go rfl ?_
        refine am_go rfl ?_
        exact ⟨rfl, by unfold lastA; rw [if_neg j0, if_neg j1, if_neg hlt]⟩
theorem d_last {d : Nat} {x y : Int32} {w : am_M} {S : Sp} (hd : 3 ≤ d) (h : RC w S) : am_D shC d mi_X11_last [.ref 0, .int x, .int y] w (some (.int (lastS S x y)), w) := by
  have hm := h.1.M
  rcases dI_or x S.m (by omega) with hx | ⟨l, hl, rfl, hx⟩
  · refine am_def (by omega) rfl rfl ?_
    iterate 4 refine am_g0 rfl rfl ?_
    refine am_top (y := nI S.m) (hm.1) ?_
    refine am_g0 rfl rfl ?_
    refine ⟨(some (.int 0), w), d_isWn shC (by omega) hx, ?_⟩
    refine am_to (lv' := [(0, .ref 0), (1, .int x), (2, .int y)]) (st' := [.int 0]) (w' := w) rfl rfl rfl ?_
    refine am_g0 rfl rfl ?_
    refine am_go rfl ?_
    refine am_g0 rfl rfl ?_
    exact ⟨rfl, by unfold lastS; rw [hx]⟩
  · rcases dI_or y 6 (by decide) with hy | ⟨j, hj, rfl, hy⟩
    · refine am_def (by omega) rfl rfl ?_
      iterate 4 refine am_g0 rfl rfl ?_
      refine am_top (y := nI S.m) (hm.1) ?_
      refine am_g0 rfl rfl ?_
      refine ⟨(some (.int 1), w), d_isWs shC (by omega) hl (by omega), ?_⟩
      refine am_to (lv' := [(0, .ref 0), (1, .int (nI l)), (2, .int y)]) (st' := [.int 1]) (w' := w) rfl rfl rfl ?_
      iterate 4 refine am_g0 rfl rfl ?_
      refine ⟨(some (.int 0), w), d_isWn shC (n := 6) (by omega) hy, ?_⟩
      refine am_to (lv' := [(0, .ref 0), (1, .int (nI l)), (2, .int y)]) (st' := [.int 0]) (w' := w) rfl rfl rfl ?_
      refine am_g0 rfl rfl ?_
      refine am_go rfl ?_
      refine am_g0 rfl rfl ?_
      exact ⟨rfl, by unfold lastS; rw [hx, hy]⟩
    · refine am_def (by omega) rfl rfl ?_
      iterate 4 refine am_g0 rfl rfl ?_
      refine am_top (y := nI S.m) (hm.1) ?_
      refine am_g0 rfl rfl ?_
      refine ⟨(some (.int 1), w), d_isWs shC (by omega) hl (by omega), ?_⟩
      refine am_to (lv' := [(0, .ref 0), (1, .int (nI l)), (2, .int (nI j))]) (st' := [.int 1]) (w' := w) rfl rfl rfl ?_
      iterate 4 refine am_g0 rfl rfl ?_
      refine ⟨(some (.int 1), w), d_isWs shC (n := 6) (by omega) hj (by decide), ?_⟩
      refine am_to (lv' := [(0, .ref 0), (1, .int (nI l)), (2, .int (nI j))]) (st' := [.int 1]) (w' := w) rfl rfl rfl ?_
      refine am_g0 rfl rfl ?_
      refine am_go rfl ?_
      iterate 4 refine am_g0 rfl rfl ?_
      refine ⟨(some (.int (lastA S l j)), w), d_ltold (by omega) h hl hj, ?_⟩
      refine am_to (lv' := [(0, .ref 0), (1, .int (nI l)), (2, .int (nI j))]) (st' := [.int (lastA S l j)]) (w' := w) rfl rfl rfl ?_
      refine am_g0 rfl rfl ?_
      exact ⟨rfl, by unfold lastS; rw [hx, hy]⟩
def personS (S : Sp) (x y : Int32) : Int32 := match dI x S.q, dI y 5 with
  | some p, some j => nI (S.pf p j)
  | _, _ => -2
theorem d_person {d : Nat} {x y : Int32} {w : am_M} {S : Sp} (hd : 3 ≤ d) (h : RC w S) : am_D shC d mi_X11_person [.ref 0, .int x, .int y] w (some (.int (personS S x y)), w) := by
  have hP := h.1.P
  have hq : S.q ≤ 8 := hP.2.1
  rcases dI_or x S.q (by omega) with hx | ⟨l, hl, rfl, hx⟩
  · refine am_def (by omega) rfl rfl ?_
    iterate 4 refine am_g0 rfl rfl ?_
    refine am_top (y := nI S.q) (hP.1) ?_
    refine am_g0 rfl rfl ?_
    refine ⟨(some (.int 0), w), d_isWn shC (by omega) hx, ?_⟩
    refine am_to (lv' := [(0, .ref 0), (1, .int x), (2, .int y)]) (st' := [.int 0]) (w' := w) rfl rfl rfl ?_
    refine am_g0 rfl rfl ?_
    refine am_go rfl ?_
    refine am_g0 rfl rfl ?_
    exact ⟨rfl, by unfold personS; rw [hx]⟩
  · rcases dI_or y 5 (by decide) with hy | ⟨j, hj, rfl, hy⟩
    · refine am_def (by omega) rfl rfl ?_
      iterate 4 refine am_g0 rfl rfl ?_
      refine am_top (y := nI S.q) (hP.1) ?_
      refine am_g0 rfl rfl ?_
      refine ⟨(some (.int 1), w), d_isWs shC (by omega) hl (by omega), ?_⟩
      refine am_to (lv' := [(0, .ref 0), (1, .int (nI l)), (2, .int y)]) (st' := [.int 1]) (w' := w) rfl rfl rfl ?_
      iterate 4 refine am_g0 rfl rfl ?_
      refine ⟨(some (.int 0), w), d_isWn shC (n := 5) (by omega) hy, ?_⟩
      refine am_to (lv' := [(0, .ref 0), (1, .int (nI l)), (2, .int y)]) (st' := [.int 0]) (w' := w) rfl rfl rfl ?_
      refine am_g0 rfl rfl ?_
      refine am_go rfl ?_
      refine am_g0 rfl rfl ?_
      exact ⟨rfl, by unfold personS; rw [hx, hy]⟩
    · refine am_def (by omega) rfl rfl ?_
      iterate 4 refine am_g0 rfl rfl ?_
      refine am_top (y := nI S.q) (hP.1) ?_
      refine am_g0 rfl rfl ?_
      refine ⟨(some (.int 1), w), d_isWs shC (by omega) hl (by omega), ?_⟩
      refine am_to (lv' := [(0, .ref 0), (1, .int (nI l)), (2, .int (nI j))]) (st' := [.int 1]) (w' := w) rfl rfl rfl ?_
      iterate 4 refine am_g0 rfl rfl ?_
      refine ⟨(some (.int 1), w), d_isWs shC (n := 5) (by omega) hj (by decide), ?_⟩
      refine am_to (lv' := [(0, .ref 0), (1, .int (nI l)), (2, .int (nI j))]) (st' := [.int 1]) (w' := w) rfl rfl rfl ?_
      refine am_g0 rfl rfl ?_
      refine am_go rfl ?_
      iterate 4 refine am_g0 rfl rfl ?_
      refine ⟨(some (.int (nI (S.pf l j))), w), d_ptold (by omega) hP hl hj, ?_⟩
      refine am_to (lv' := [(0, .ref 0), (1, .int (nI l)), (2, .int (nI j))]) (st' := [.int (nI (S.pf l j))]) (w' := w) rfl rfl rfl ?_
      refine am_g0 rfl rfl ?_
      exact ⟨rfl, by unfold personS; rw [hx, hy]⟩
