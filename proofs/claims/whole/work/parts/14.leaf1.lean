/-! helpers of the pure walks, and the class' smallest methods -/
theorem am_ys {b : Bool} {P : Prop} (h : b = true) (k : P) : am_test b P := by subst h; exact k
theorem am_oi {α : Type} {x : Option α} {f : α → Prop} {a : α} (h : x = some a) (k : f a) : am_opt x f := by subst h; exact k
theorem am_def {sh : List am_S} {d mid : Nat} {as : List Value} {w : am_M} {o : am_O} (hd : 1 ≤ d) (h1 : Nat.ble (am_cat as) (am_ml mid) = true) (h2 : Nat.blt mid 199 = true) (h : am_R sh mid (am_D sh (d - 1)) (fun r => r = o) 0 (am_in 0 as) [] w) : am_D sh d mid as w o := by
  obtain ⟨k, rfl⟩ : ∃ k, d = k + 1 := ⟨d - 1, by omega⟩
  exact Or.inr ⟨h1, h2, h⟩
/-- nothing is dropped here -/
def am_nk (mid pc : Nat) : Bool := match am_LV[mid]? with
  | some l => match am_fnd l pc with
    | some _ => false
    | none => true
  | none => true
theorem am_nk_eq {mid pc : Nat} (h : am_nk mid pc = true) (lv : am_L) : am_kill mid pc lv = lv := by
  unfold am_nk at h
  unfold am_kill
  split at h
  · rename_i l hl
    rw [hl]
    dsimp only
    split at h
    · cases h
    · rename_i hf
      rw [hf]
  · rename_i hl
    rw [hl]
theorem am_g0 {sh : List am_S} {mid : Nat} {call : Nat → List Value → am_M → am_O → Prop} {post : am_O → Prop} {pc : Nat} {lv : am_L} {st : List Value} {w : am_M} {e : Instr × Int32 × Nat × Nat}
    (he : am_at mid pc = some e) (hk : am_nk mid pc = true) (h : am_step sh mid call post (am_R sh mid call post) pc e lv st w) : am_R sh mid call post pc lv st w := am_go he (by rw [am_nk_eq hk]; exact h)
section AMR
variable {sh : List am_S} {mid : Nat} {call : Nat → List Value → am_M → am_O → Prop} {post : am_O → Prop} {pc : Nat} {lv : am_L} {st : List Value} {w : am_M} {v : Int32} {nx tg : Nat}
/-- an int of a row -/
theorem am_gl {b n : Nat} {i : Int32} (he : am_at mid pc = some (.iaload, v, nx, tg)) (hn : am_ln sh b = some n) (hi : ¬ (i < 0 ∨ n ≤ i.toNatClampNeg)) (h : am_R sh mid call post nx (am_kill mid pc lv) (.int (w.1 b i.toNatClampNeg) :: st) w) : am_R sh mid call post pc lv (.int i :: .ref b :: st) w := by
  refine am_go he ?_
  show (match am_ln sh b with
    | some n => if i < 0 ∨ n ≤ i.toNatClampNeg then False else _
    | none => _)
  rw [hn]
  exact am_ff hi h
theorem am_glN {b n k : Nat} (he : am_at mid pc = some (.iaload, v, nx, tg)) (hn : am_ln sh b = some n) (hk : k < n) (hn2 : n < 2 ^ 31) (h : am_R sh mid call post nx (am_kill mid pc lv) (.int (w.1 b k) :: st) w) : am_R sh mid call post pc lv (.int (nI k) :: .ref b :: st) w := by
  refine am_gl he hn (nI_in hk hn2) ?_
  rw [nI_clamp (by omega)]
  exact h
/-- an int into a row -/
theorem am_gs {b n : Nat} {i x : Int32} (he : am_at mid pc = some (.iastore, v, nx, tg)) (hn : am_ln sh b = some n) (hi : ¬ (i < 0 ∨ n ≤ i.toNatClampNeg)) (h : am_R sh mid call post nx (am_kill mid pc lv) st (am_pi w b i.toNatClampNeg x)) : am_R sh mid call post pc lv (.int x :: .int i :: .ref b :: st) w := by
  refine am_go he ?_
  exact am_oi hn (am_ff hi h)
theorem am_gsN {b n k : Nat} {x : Int32} (he : am_at mid pc = some (.iastore, v, nx, tg)) (hn : am_ln sh b = some n) (hk : k < n) (hn2 : n < 2 ^ 31) (h : am_R sh mid call post nx (am_kill mid pc lv) st (am_pi w b k x)) : am_R sh mid call post pc lv (.int x :: .int (nI k) :: .ref b :: st) w := by
  refine am_gs he hn (nI_in hk hn2) ?_
  rw [nI_clamp (by omega)]
  exact h
theorem am_inv (h : am_R sh mid call post pc lv st w) : ∃ e, am_at mid pc = some e ∧ am_step sh mid call post (am_R sh mid call post) pc e (am_kill mid pc lv) st w :=
  h (fun pc lv st w => ∃ e, am_at mid pc = some e ∧ am_step sh mid call post (am_R sh mid call post) pc e (am_kill mid pc lv) st w) fun pc lv st w e he hs => ⟨e, he, am_step_m (fun a b c d ⟨e, h1, h2⟩ => am_go h1 h2) hs⟩
/-- at a head: what isn't kept there doesn't count -/
theorem am_kl {lv' : am_L} (h : am_R sh mid call post pc lv' st w) (e : am_kill mid pc lv = am_kill mid pc lv') : am_R sh mid call post pc lv st w := by
  obtain ⟨e0, h1, h2⟩ := am_inv h
  exact am_go h1 (by rw [e]; exact h2)
theorem am_top {x y : Int32} (h : x = y) (k : am_R sh mid call post pc lv (.int y :: st) w) : am_R sh mid call post pc lv (.int x :: st) w := by rw [h]; exact k
theorem am_top2 {x y : Int32} {a : Value} (h : x = y) (k : am_R sh mid call post pc lv (a :: .int y :: st) w) : am_R sh mid call post pc lv (a :: .int x :: st) w := by rw [h]; exact k
theorem am_to {lv' : am_L} {st' : List Value} {w' : am_M} (h1 : lv = lv') (h2 : st = st') (h3 : w = w') (k : am_R sh mid call post pc lv' st' w') : am_R sh mid call post pc lv st w := by rw [h1, h2, h3]; exact k
theorem am_wm {w' : am_M} (h3 : w = w') (k : am_R sh mid call post pc lv st w') : am_R sh mid call post pc lv st w := by rw [h3]; exact k
end AMR
/-- a constant row's int -/
theorem am_glS {sh : List am_S} {mid : Nat} {call : Nat → List Value → am_M → am_O → Prop} {post : am_O → Prop} {pc : Nat} {lv : am_L} {st : List Value} {w : am_M} {v : Int32} {nx tg : Nat} {b k : Nat} {l : List Int32} {x : Int32} (he : am_at mid pc = some (.iaload, v, nx, tg)) (hn : am_ln sh b = none) (hl : am_si b = some l) (hk : l[k]? = some x) (hl2 : l.length < 2 ^ 31) (h : am_R sh mid call post nx (am_kill mid pc lv) (.int x :: st) w) : am_R sh mid call post pc lv (.int (nI k) :: .ref b :: st) w := by
  have hlt : k < l.length := (List.getElem?_eq_some_iff.mp hk).1
  refine am_go he ?_
  show (match am_ln sh b with
    | some n => _
    | none => am_opt (am_si b) _)
  rw [hn]
  refine am_oi hl (am_ff (nI_in hlt hl2) ?_)
  rw [nI_clamp (by omega), List.getD_eq_getElem?_getD, hk]
  exact h
theorem am_pi_at (w : am_M) (k j : Nat) (x : Int32) : (am_pi w k j x).1 k j = x := by simp [am_pi]
theorem am_pi_ne {w : am_M} {k j a b : Nat} {x : Int32} (h : a ≠ k ∨ b ≠ j) : (am_pi w k j x).1 a b = w.1 a b := by
  have : ¬ (a = k ∧ b = j) := fun q => h.elim (fun z => z q.1) (fun z => z q.2)
  simp [am_pi, this]
theorem am_pi_2 (w : am_M) (k j : Nat) (x : Int32) : (am_pi w k j x).2 = w.2 := rfl
/-- a number is within, or not -/
theorem am_wi (x : Int32) (n : Nat) (hn : n < 2 ^ 31) : (∃ j, j < n ∧ x = nI j) ∨ (x < 0 ∨ nI n ≤ x) := by
  rcases pk_ix x hn with h | h | h
  · exact Or.inr (Or.inl h)
  · exact Or.inr (Or.inr h)
  · exact Or.inl h
theorem d_isWithin_t (sh : List am_S) {d i n : Nat} (hd : 1 ≤ d) (hi : i < n) (hn : n < 2 ^ 31) (w : am_M) : am_D sh d mi_X11_isWithin [.int (nI i), .int (nI n)] w (some (.int 1), w) := by
  refine am_def hd rfl rfl ?_
  iterate 2 refine am_go rfl ?_
  refine am_ff (nI_pos (by omega)) ?_
  iterate 3 refine am_go rfl ?_
  refine am_ff (nI_ge hi hn) ?_
  iterate 3 refine am_go rfl ?_
  exact ⟨rfl, rfl⟩
theorem d_isWithin_f (sh : List am_S) {d : Nat} (hd : 1 ≤ d) {x y : Int32} (h : x < 0 ∨ y ≤ x) (w : am_M) : am_D sh d mi_X11_isWithin [.int x, .int y] w (some (.int 0), w) := by
  refine am_def hd rfl rfl ?_
  iterate 2 refine am_go rfl ?_
  refine am_by (fun h1 => ?_) (fun h1 => ?_)
  · iterate 2 refine am_go rfl ?_
    exact ⟨rfl, rfl⟩
  · iterate 3 refine am_go rfl ?_
    refine am_tt (h.resolve_left h1) ?_
    iterate 2 refine am_go rfl ?_
    exact ⟨rfl, rfl⟩
theorem d_isBitOf (sh : List am_S) {d : Nat} (hd : 1 ≤ d) (x y : Int32) (w : am_M) : am_D sh d mi_X11_isBitOf [.int x, .int y] w (some (.int (if (x >>> (y &&& 31)) &&& 1 = 0 then 0 else 1)), w) := by
  refine am_def hd rfl rfl ?_
  iterate 6 refine am_go rfl ?_
  refine am_by (fun h => ?_) (fun h => ?_)
  · iterate 2 refine am_go rfl ?_
    exact ⟨rfl, by rw [if_pos h]⟩
  · iterate 3 refine am_go rfl ?_
    exact ⟨rfl, by rw [if_neg h]⟩
theorem i10 : ¬ (1 : Int32) = 0 := by decide
theorem i00 : (0 : Int32) = 0 := rfl
/-! the rows' cells by number -/
theorem sh_T (t : Nat) (ht : t < 3) : am_isb shC (2 + t) 7 = true ∧ am_tg shC (2 + t) 0 = some (5 + t) ∧ am_ln shC (5 + t) = some 55 := by
  match t, ht with
  | 0, _ => exact ⟨rfl, rfl, rfl⟩
  | 1, _ => exact ⟨rfl, rfl, rfl⟩
  | 2, _ => exact ⟨rfl, rfl, rfl⟩
theorem sh_S (t : Nat) (ht : t < 4) : am_isb shC (25 + t) 4 = true ∧ am_tg shC (25 + t) 0 = some (29 + t) ∧ am_ln shC (29 + t) = some 60 := by
  match t, ht with
  | 0, _ => exact ⟨rfl, rfl, rfl⟩
  | 1, _ => exact ⟨rfl, rfl, rfl⟩
  | 2, _ => exact ⟨rfl, rfl, rfl⟩
  | 3, _ => exact ⟨rfl, rfl, rfl⟩
/-! Text -/
theorem d_append_f {d t n m : Nat} {b : Int32} {w : am_M} (hd : 1 ≤ d) (ht : t < 3) (hl : w.1 (2 + t) 2 = nI n) (hm : w.1 (2 + t) 1 = nI m) (h : m ≤ n) (hn : n < 2 ^ 31) : am_D shC d mi_X7_append [.ref (2 + t), .int b] w (some (.int 0), w) := by
  obtain ⟨s1, s2, s3⟩ := sh_T t ht
  refine am_def hd rfl rfl ?_
  iterate 2 refine am_go rfl ?_
  refine am_ys s1 ?_
  iterate 2 refine am_go rfl ?_
  refine am_ys s1 ?_
  refine am_go rfl ?_
  refine am_ff (by rw [hl, hm]; exact nI_nlt h hn) ?_
  iterate 2 refine am_go rfl ?_
  exact ⟨rfl, rfl⟩
theorem d_append_t {d t n m : Nat} {b : Int32} {w : am_M} (hd : 1 ≤ d) (ht : t < 3) (hl : w.1 (2 + t) 2 = nI n) (hm : w.1 (2 + t) 1 = nI m) (h : n < m) (hn : m ≤ 55) : am_D shC d mi_X7_append [.ref (2 + t), .int b] w (some (.int 1), am_pi (am_pi w (5 + t) n b) (2 + t) 2 (nI (n + 1))) := by
  obtain ⟨s1, s2, s3⟩ := sh_T t ht
  refine am_def hd rfl rfl ?_
  iterate 2 refine am_go rfl ?_
  refine am_ys s1 ?_
  iterate 2 refine am_go rfl ?_
  refine am_ys s1 ?_
  refine am_go rfl ?_
  refine am_tt (by rw [hl, hm]; exact nI_lt h (by omega)) ?_
  iterate 2 refine am_go rfl ?_
  refine am_ys s1 (am_oi s2 ?_)
  iterate 2 refine am_go rfl ?_
  refine am_ys s1 ?_
  refine am_go rfl ?_
  rw [hl]
  refine am_gsN rfl s3 (by omega) (by decide) ?_
  iterate 3 refine am_go rfl ?_
  refine am_ys s1 ?_
  iterate 3 refine am_go rfl ?_
  refine am_ys (by rw [s1]; rfl) ?_
  iterate 2 refine am_go rfl ?_
  refine ⟨rfl, ?_⟩
  show (_, am_pi (am_pi w (5 + t) n b) (2 + t) 2 ((am_pi w (5 + t) n b).1 (2 + t) 2 + 1)) = _
  rw [am_pi_ne (Or.inl (by omega)), hl, nI_1]
theorem d_signAt {d t n i v : Nat} {w : am_M} (hd : 2 ≤ d) (ht : t < 3) (hl : w.1 (2 + t) 2 = nI n) (hi : i < n) (hn : n ≤ 55) (hv : w.1 (5 + t) i = nI v) (hb : v < 256) : am_D shC d mi_X7_signAt [.ref (2 + t), .int (nI i)] w (some (.int (nI v)), w) := by
  obtain ⟨s1, s2, s3⟩ := sh_T t ht
  refine am_def (by omega) rfl rfl ?_
  iterate 3 refine am_go rfl ?_
  refine am_ys s1 ?_
  refine am_go rfl ?_
  rw [hl]
  refine ⟨(some (.int 1), w), d_isWithin_t shC (by omega) hi (by omega) w, ?_⟩
  refine am_go rfl ?_
  iterate 2 refine am_go rfl ?_
  refine am_ys s1 (am_oi s2 ?_)
  refine am_go rfl ?_
  refine am_glN rfl s3 (by omega) (by decide) ?_
  rw [hv]
  refine am_go rfl ?_
  refine am_top (y := nI v) (by rw [pk_char, show (nI v).toBitVec.toNat % 65536 = v by rw [pk_tn (by omega)]; omega]) ?_
  iterate 2 refine am_go rfl ?_
  exact ⟨(pk_charN (by omega)).1, rfl⟩
