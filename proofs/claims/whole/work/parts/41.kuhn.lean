/-! match: the class -/
def fdC (A : Nat → Nat → Bool) (T : Nat → Bool) (H : Hd) (w : am_M) : Prop := (∀ q, q < 8 → ∀ l, l < 8 → wetB (w.1 67 q) l = A q l) ∧ (∀ l, l < 8 → wetB (w.1 66 2) l = T l) ∧ ∀ l, l < 8 → w.1 68 l = opI (H l)
def fdFr (w w' : am_M) : Prop := (∀ a, a ≠ 66 → a ≠ 68 → w'.1 a = w.1 a) ∧ w'.2 = w.2
theorem fdFr.rf {w : am_M} : fdFr w w := ⟨fun _ _ _ => rfl, rfl⟩
theorem fdFr.tr {w w' w'' : am_M} (h : fdFr w w') (h' : fdFr w' w'') : fdFr w w'' := ⟨fun a h1 h2 => (h'.1 a h1 h2).trans (h.1 a h1 h2), h'.2.trans h.2⟩
theorem fdFr.p {w w' : am_M} {a j : Nat} {x : Int32} (h : fdFr w w') (ha : a = 66 ∨ a = 68) : fdFr w (am_pi w' a j x) := ⟨fun b h1 h2 => (am_pi_row (by omega)).trans (h.1 b h1 h2), h.2⟩
def fdT (A : Nat → Nat → Bool) (p : Nat) (T : Nat → Bool) (M H' : Hd) : Prop := ∃ M', okH A 8 M' ∧ (∀ l, l < 8 → T l = false → M' l = H' l) ∧ (∀ l, l < 8 → T l = true → M' l = M l) ∧ szH M' = szH M + 1 ∧ ∀ l q, l < 8 → M' l = some q → q = p ∨ ∃ i, i < 8 ∧ M i = some q
def fdF (A : Nat → Nat → Bool) (p : Nat) (T T' : Nat → Bool) (H H' : Hd) : Prop := (∀ l, l < 8 → H' l = H l) ∧ (∀ l, l < 8 → A p l = true → T' l = true) ∧ ∀ l, l < 8 → T' l = true → T l = false → ∃ q, H l = some q ∧ ∀ l', l' < 8 → A q l' = true → T' l' = true
def fdO (A : Nat → Nat → Bool) (p : Nat) (T : Nat → Bool) (M H : Hd) (w : am_M) (o : am_O) : Prop := ∃ b : Bool, ∃ T' H', o.1 = some (.int (b01 b)) ∧ fdFr w o.2 ∧ fdC A T' H' o.2 ∧ (∀ l, l < 8 → T l = true → T' l = true) ∧ (∀ l, l < 8 → T l = true → H' l = H l) ∧ (b = true → fdT A p T M H') ∧ (b = false → fdF A p T T' H H')
def fdP (A : Nat → Nat → Bool) (dep d : Nat) : Prop := ∀ p T M H w, dep ≤ cntN T 8 → p < 8 → fdC A T H w → (∀ l, l < 8 → T l = false → M l = H l) → okH A 8 M → (∀ l, l < 8 → M l ≠ some p) → ∃ o, fdO A p T M H w o ∧ am_D shC d mi_X1_finds [.ref 66, .int (nI p), .int (nI dep)] w o
theorem cntN_lt {g : Nat → Bool} {n l : Nat} (hl : l < n) (h : g l = false) : cntN g n < n := by
  have h1 := cntN_one (g := fun i => if i = l then true else g i) (g' := g) hl (by rw [if_pos rfl]) h (fun i hi => by rw [if_neg hi])
  have := cntN_le (g := fun i => if i = l then true else g i) n
  omega
set_option maxHeartbeats 1000000 in
theorem d_finds_1 {A : Nat → Nat → Bool} {dep d : Nat} (hd : 2 ≤ d) (h8 : dep ≤ 8) (ih : dep < 8 → fdP A (dep + 1) (d - 1)) : fdP A dep d := by
  intro p T M H w hc hp hC hM hok hno
  refine am_dex (by omega) rfl rfl ?_
  iterate 3 refine am_g0 rfl rfl ?_
  refine am_tt (show (nI dep : Int32) ≤ 8 from nI_le (b := 8) h8 (by omega)) ?_
  refine am_go rfl ?_
  refine am_g0 rfl rfl ?_
  have key : ∀ j i : Nat, i + j = 8 → ∀ (m : am_M) (T1 : Nat → Bool), fdFr w m → fdC A T1 H m → (∀ l, l < 8 → T l = true → T1 l = true) → (∀ l, l < i → A p l = true → T1 l = true) → (∀ l, l < 8 → T1 l = true → T l = false → ∃ q, H l = some q ∧ ∀ l', l' < 8 → A q l' = true → T1 l' = true) → am_R shC mi_X1_finds (am_D shC (d - 1)) (fun o => fdO A p T M H w o) 10 [(0, .ref 66), (1, .int (nI p)), (2, .int (nI dep)), (3, .int (nI i))] [] m := by
    intro j
    induction j with
    | zero =>
      intro i hi m T1 hf hC1 hT1 hA1 hcl
      refine am_go rfl ?_
      iterate 2 refine am_g0 rfl rfl ?_
      refine am_tt (show (8 : Int32) ≤ (nI i) from nI_le (a := 8) (by omega) (by omega)) ?_
      refine am_go rfl ?_
      refine am_g0 rfl rfl ?_
      exact ⟨rfl, false, T1, H, rfl, hf, hC1, hT1, fun _ _ _ => rfl, fun z => absurd z (by decide), fun _ => ⟨fun _ _ => rfl, fun l hl => hA1 l (by omega), hcl⟩⟩
    | succ j ih2 =>
      intro i hi m T1 hf hC1 hT1 hA1 hcl
      refine am_go rfl ?_
      iterate 2 refine am_g0 rfl rfl ?_
      refine am_ff (show ¬ (8 : Int32) ≤ (nI i) from nI_ge (b := 8) (by omega) (by omega)) ?_
      iterate 3 refine am_g0 rfl rfl ?_
      refine am_glN (n := 8) (k := p) rfl rfl (by omega) (by decide) ?_
      iterate 2 refine am_g0 rfl rfl ?_
      refine ⟨(some (.int (b01 (A p i))), m), d_bit shC (by omega) (hC1.1 p hp i (by omega)), ?_⟩
      refine am_to (lv' := [(0, .ref 66), (1, .int (nI p)), (2, .int (nI dep)), (3, .int (nI i))]) (st' := [.int (b01 (A p i))]) (w' := m) rfl rfl rfl ?_
      refine am_g0 rfl rfl ?_
      cases hAi : A p i with
      | false =>
        refine am_go rfl ?_
        refine am_g0 rfl rfl ?_
        have this := ih2 (i + 1) (by omega) m T1 hf hC1 hT1 (fun l hl hz => if e : l = i then by rw [e, hAi] at hz; cases hz else hA1 l (by omega) hz) hcl
        rw [← nI_1] at this
        exact am_kl this rfl
      | true =>
        iterate 4 refine am_g0 rfl rfl ?_
        refine ⟨(some (.int (b01 (T1 i))), m), d_bit shC (by omega) (hC1.2.1 i (by omega)), ?_⟩
        refine am_to (lv' := [(0, .ref 66), (1, .int (nI p)), (2, .int (nI dep)), (3, .int (nI i))]) (st' := [.int (b01 (T1 i))]) (w' := m) rfl rfl rfl ?_
        refine am_g0 rfl rfl ?_
        cases hTi : T1 i with
        | true =>
          refine am_g0 rfl rfl ?_
          refine am_go rfl ?_
          refine am_g0 rfl rfl ?_
          have this := ih2 (i + 1) (by omega) m T1 hf hC1 hT1 (fun l hl hz => if e : l = i then by rw [e]; exact hTi else hA1 l (by omega) hz) hcl
          rw [← nI_1] at this
          exact am_kl this rfl
        | false =>
          refine am_go rfl ?_
          iterate 7 refine am_g0 rfl rfl ?_
          refine am_to (lv' := [(0, .ref 66), (1, .int (nI p)), (2, .int (nI dep)), (3, .int (nI i))]) (st' := []) (w' := am_pi m 66 2 ((m.1 66 2) ||| ((1 : Int32) <<< ((nI i) &&& 31)))) rfl rfl rfl ?_
          obtain ⟨T2, hT2⟩ : ∃ T2 : Nat → Bool, T2 = fun l => T1 l || decide (i = l) := ⟨_, rfl⟩
          have e2 : ∀ l, l ≠ i → T2 l = T1 l := fun l hl => by rw [hT2]; dsimp only; rw [decide_eq_false (fun z => hl z.symm), Bool.or_false]
          have e2i : T2 i = true := by rw [hT2]; dsimp only; rw [decide_eq_true rfl, Bool.or_true]
          have hTT : T i = false := by
            cases z : T i with
            | false => rfl
            | true => rw [hT1 i (by omega) z] at hTi; cases hTi
          have l12 : ∀ l, T1 l = true → T2 l = true := fun l hl => by rw [hT2]; dsimp only; rw [hl]; rfl
          generalize hv : am_pi m 66 2 ((m.1 66 2) ||| ((1 : Int32) <<< ((nI i) &&& 31))) = v
          have hfv : fdFr w v := by rw [← hv]; exact hf.p (Or.inl rfl)
          have hCv : fdC A T2 H v := by
            rw [← hv]
            refine ⟨fun q hq l hl => by rw [am_pi_row (by omega)]; exact hC1.1 q hq l hl, fun l hl => ?_, fun l hl => by rw [am_pi_row (by omega)]; exact hC1.2.2 l hl⟩
            rw [am_pi_at, wetB_or (by omega) (by omega), hC1.2.1 l hl, hT2]
          have won : ∀ (u : am_M) (H1 : Hd) (T3 : Nat → Bool) (M1 : Hd), fdFr w u → fdC A T3 H1 u → (∀ l, l < 8 → T l = true → T3 l = true) → (∀ l, l < 8 → T l = true → H1 l = H l) → okH A 8 M1 → (∀ l, l < 8 → l ≠ i → T l = false → M1 l = H1 l) → (∀ l, l < 8 → T l = true → M1 l = M l) → M1 i = none → szH M1 = szH M → (∀ l q, l < 8 → M1 l = some q → ∃ i, i < 8 ∧ M i = some q) → am_R shC mi_X1_finds (am_D shC (d - 1)) (fun o => fdO A p T M H w o) 81 [(0, .ref 66), (1, .int (nI p)), (3, .int (nI i))] [] u := by
            intro u H1 T3 M1 hfu hCu hT3 hH1 hok1 hM1 hM1t hM1i hsz hran
            refine am_go rfl ?_
            iterate 3 refine am_g0 rfl rfl ?_
            refine am_gsN (n := 8) (k := i) rfl rfl (by omega) (by decide) ?_
            refine am_to (lv' := [(0, .ref 66), (1, .int (nI p)), (3, .int (nI i))]) (st' := []) (w' := am_pi u 68 i (nI p)) rfl rfl rfl ?_
            iterate 2 refine am_g0 rfl rfl ?_
            refine ⟨rfl, true, T3, upH H1 i (some p), rfl, hfu.p (Or.inr rfl), ⟨fun q hq l hl => by rw [am_pi_row (by omega)]; exact hCu.1 q hq l hl, fun l hl => by rw [am_pi_row (by omega)]; exact hCu.2.1 l hl, fun l hl => ?_⟩, hT3, fun l hl hz => ?_, fun _ => ⟨upH M1 i (some p), okH_put hok1 hp hAi (fun l hl _ z => ?_), fun l hl hz => ?_, fun l hl hz => ?_, by rw [szH_put (by omega) hM1i, hsz], fun l q hl z => ?_⟩, fun z => absurd z (by decide)⟩
            · by_cases e : l = i
              · rw [e, upH_at]; exact am_pi_at _ _ _ _
              · rw [upH_ne e, am_pi_ne (Or.inr e)]; exact hCu.2.2 l hl
            · rw [upH_ne (fun e => by rw [e, hTT] at hz; cases hz)]; exact hH1 l hl hz
            · obtain ⟨i', h1, h2⟩ := hran l p hl z
              exact hno i' h1 h2
            · by_cases e : l = i
              · rw [e, upH_at, upH_at]
              · rw [upH_ne e, upH_ne e]; exact hM1 l hl e hz
            · rw [upH_ne (fun e => by rw [e, hTT] at hz; cases hz)]; exact hM1t l hl hz
            · by_cases e : l = i
              · rw [e, upH_at] at z; cases z; exact Or.inl rfl
              · rw [upH_ne e] at z; exact Or.inr (hran l q hl z)
          iterate 3 refine am_g0 rfl rfl ?_
          refine am_glN (n := 8) (k := i) rfl rfl (by omega) (by decide) ?_
          iterate 2 refine am_g0 rfl rfl ?_
          rcases opt_or (H i) with hH | ⟨q, hH⟩
          · refine am_tt (show (v.1 68 i : Int32) = (-1) from by rw [hCv.2.2 i (by omega), hH]; rfl) ?_
            have hMi : M i = none := by rw [hM i (by omega) hTT, hH]
            exact am_kl (won v H T2 M hfv hCv (fun l hl hz => l12 l (hT1 l hl hz)) (fun _ _ _ => rfl) hok (fun l hl _ hz => hM l hl hz) (fun _ _ _ => rfl) hMi rfl (fun l q hl z => ⟨l, hl, z⟩)) rfl
          · have hMi : M i = some q := by rw [hM i (by omega) hTT, hH]
            have hq8 := (hok.1 i q (by omega) hMi).1
            refine am_ff (show ¬ (v.1 68 i : Int32) = (-1) from by rw [hCv.2.2 i (by omega), hH]; exact nI_m1 (by omega)) ?_
            iterate 4 refine am_g0 rfl rfl ?_
            refine am_glN (n := 8) (k := i) rfl rfl (by omega) (by decide) ?_
            refine am_top (y := nI q) (by rw [hCv.2.2 i (by omega), hH]; rfl) ?_
            iterate 3 refine am_g0 rfl rfl ?_
            refine am_top (y := nI (dep + 1)) (nI_1 dep) ?_
            refine am_g0 rfl rfl ?_
            have hdep : dep < 8 := by
              have h1 : cntN T 8 < 8 := cntN_lt (l := i) (by omega) hTT
              omega
            have hcT : dep + 1 ≤ cntN T2 8 := by
              have h1 : cntN T2 8 = cntN T1 8 + 1 := cntN_one (l := i) (by omega) e2i hTi (fun l hl => (e2 l hl).symm)
              have h2 : cntN T 8 ≤ cntN T1 8 := cntN_mono (fun l hl z => hT1 l hl z)
              omega
            obtain ⟨⟨r3, w3⟩, ⟨b, T3, H3, e3, f3, c3, t3, h3, hyes, hnot⟩, hD3⟩ := ih hdep q T2 (upH M i none) H v hcT hq8 hCv (fun l hl hz => by
              have e : l ≠ i := fun z => by rw [z, e2i] at hz; cases hz
              rw [upH_ne e]
              refine hM l hl ?_
              cases z : T l with
              | false => rfl
              | true => rw [l12 l (hT1 l hl z)] at hz; cases hz) (okH_rm i hok) (fun l hl z => by
              have e : l ≠ i := fun z' => by rw [z', upH_at] at z; cases z
              rw [upH_ne e] at z
              exact e (hok.2 l i q hl (by omega) z hMi))
            dsimp only at e3 f3 c3
            subst e3
            refine ⟨(some (.int (b01 b)), w3), hD3, ?_⟩
            refine am_to (lv' := [(0, .ref 66), (1, .int (nI p)), (2, .int (nI dep)), (3, .int (nI i))]) (st' := [.int (b01 b)]) (w' := w3) rfl rfl rfl ?_
            refine am_g0 rfl rfl ?_
            cases b with
            | true =>
              obtain ⟨M3, m1, m2, m3, m4, m5⟩ := hyes rfl
              have hM3i : M3 i = none := by rw [m3 i (by omega) e2i, upH_at]
              refine am_kl (won w3 H3 T3 M3 (hfv.tr f3) c3 (fun l hl hz => t3 l hl (l12 l (hT1 l hl hz))) (fun l hl hz => h3 l hl (l12 l (hT1 l hl hz))) m1 (fun l hl hli hz => ?_) (fun l hl hz => ?_) hM3i (by rw [m4, szH_rm (l := i) (by omega) hMi]) (fun l q' hl z => ?_)) rfl
              · cases z : T2 l with
                | false => exact m2 l hl z
                | true => rw [m3 l hl z, upH_ne hli, h3 l hl z]; exact hM l hl hz
              · have e : l ≠ i := fun z => by rw [z, hTT] at hz; cases hz
                rw [m3 l hl (l12 l (hT1 l hl hz)), upH_ne e]
              · rcases m5 l q' hl z with e | ⟨i', h1, h2⟩
                · exact ⟨i, by omega, by rw [e]; exact hMi⟩
                · have e : i' ≠ i := fun z' => by rw [z', upH_at] at h2; cases h2
                  rw [upH_ne e] at h2
                  exact ⟨i', h1, h2⟩
            | false =>
              refine am_go rfl ?_
              refine am_g0 rfl rfl ?_
              obtain ⟨n1, n2, n3⟩ := hnot rfl
              have c3' : fdC A T3 H w3 := ⟨c3.1, c3.2.1, fun l hl => by rw [c3.2.2 l hl, n1 l hl]⟩
              have this := ih2 (i + 1) (by omega) w3 T3 (hfv.tr f3) c3' (fun l hl hz => t3 l hl (l12 l (hT1 l hl hz))) (fun l hl hz => if e : l = i then t3 l (by omega) (by rw [e]; exact e2i) else t3 l (by omega) (l12 l (hA1 l (by omega) hz))) (fun l hl hz ht => if z : T2 l = true then (if e : l = i then ⟨q, by rw [e]; exact hH, fun l' hl' hz' => n2 l' hl' hz'⟩ else (by obtain ⟨q', a1, a2⟩ := hcl l hl (by rw [← e2 l e]; exact z) ht; exact ⟨q', a1, fun l' hl' hz' => t3 l' hl' (l12 l' (a2 l' hl' hz'))⟩)) else n3 l hl hz (by cases z' : T2 l with | false => rfl | true => exact absurd z' z))
              rw [← nI_1] at this
              exact am_kl this rfl
  exact am_kl (key 8 0 (by omega) w T fdFr.rf hC (fun _ _ z => z) (fun l hl => absurd hl (Nat.not_lt_zero l)) (fun l hl z1 z2 => by rw [z1] at z2; cases z2)) rfl
theorem d_finds {A : Nat → Nat → Bool} : ∀ n dep d, dep + n = 8 → n + 2 ≤ d → fdP A dep d
  | 0, dep, d, h, hd => d_finds_1 (by omega) (by omega) (fun z => absurd z (by omega))
  | n + 1, dep, d, h, hd => d_finds_1 (by omega) (by omega) (fun _ => d_finds n (dep + 1) (d - 1) (by omega) (by omega))
theorem d_greatest {A : Nat → Nat → Bool} {d : Nat} {w : am_M} (hd : 11 ≤ d) (hA : ∀ q, q < 8 → ∀ l, l < 8 → wetB (w.1 67 q) l = A q l) (hH : ∀ l, l < 8 → w.1 68 l = -1) : ∃ o, (∃ n, n ≤ 8 ∧ o.1 = some (.int (nI n)) ∧ fdFr w o.2 ∧ isMx A 8 n) ∧ am_D shC d mi_X1_greatest [.ref 66] w o := by
  refine am_dex (by omega) rfl rfl ?_
  iterate 4 refine am_g0 rfl rfl ?_
  have key : ∀ j i : Nat, i + j = 8 → ∀ (m : am_M) (H : Hd), fdFr w m → (∀ l, l < 8 → m.1 68 l = opI (H l)) → okH A i H → szH H ≤ i → (∀ h, okH A i h → szH h ≤ szH H) → am_R shC mi_X1_greatest (am_D shC (d - 1)) (fun o => ∃ n, n ≤ 8 ∧ o.1 = some (.int (nI n)) ∧ fdFr w o.2 ∧ isMx A 8 n) 4 [(0, .ref 66), (1, .int (nI (szH H))), (2, .int (nI i))] [] m := by
    intro j
    induction j with
    | zero =>
      intro i hi m H hf hHm hok hsz hmx
      refine am_go rfl ?_
      iterate 2 refine am_g0 rfl rfl ?_
      refine am_tt (show (8 : Int32) ≤ (nI i) from nI_le (a := 8) (by omega) (by omega)) ?_
      refine am_go rfl ?_
      refine am_g0 rfl rfl ?_
      have e : i = 8 := by omega
      subst e
      exact ⟨rfl, szH H, hsz, rfl, hf, ⟨H, hok, rfl⟩, hmx⟩
    | succ j ih =>
      intro i hi m H hf hHm hok hsz hmx
      refine am_go rfl ?_
      iterate 2 refine am_g0 rfl rfl ?_
      refine am_ff (show ¬ (8 : Int32) ≤ (nI i) from nI_ge (b := 8) (by omega) (by omega)) ?_
      iterate 7 refine am_g0 rfl rfl ?_
      have hfv : fdFr w (am_pi m 66 2 0) := hf.p (Or.inl rfl)
      have hCv : fdC A (fun _ => false) H (am_pi m 66 2 0) := ⟨fun q hq l hl => by rw [am_pi_row (by omega), hf.1 67 (by omega) (by omega)]; exact hA q hq l hl, fun l hl => by rw [am_pi_at]; exact wetB_0 (by omega), fun l hl => by rw [am_pi_row (by omega)]; exact hHm l hl⟩
      have hok8 : okH A 8 H := okH_mono hok (fun l p hl e => by have := (hok.1 l p hl e).1; omega)
      obtain ⟨⟨r3, w3⟩, ⟨b, T3, H3, e3, f3, c3, t3, h3, hyes, hnot⟩, hD3⟩ := d_finds (A := A) 8 0 (d - 1) (by omega) (by omega) i (fun _ => false) H H _ (Nat.zero_le _) (by omega) hCv (fun _ _ _ => rfl) hok8 (fun l hl z => absurd (hok.1 l i hl z).1 (Nat.lt_irrefl i))
      dsimp only at e3 f3 c3
      subst e3
      refine ⟨(some (.int (b01 b)), w3), hD3, ?_⟩
      refine am_to (lv' := [(0, .ref 66), (1, .int (nI (szH H))), (2, .int (nI i))]) (st' := [.int (b01 b)]) (w' := w3) rfl rfl rfl ?_
      refine am_g0 rfl rfl ?_
      cases b with
      | true =>
        obtain ⟨M3, m1, m2, m3, m4, m5⟩ := hyes rfl
        have hok3 : okH A (i + 1) M3 := okH_mono m1 (fun l p hl e => by
          rcases m5 l p hl e with z | ⟨i', z1, z2⟩
          · omega
          · have := (hok.1 i' p z1 z2).1; omega)
        have this := ih (i + 1) (by omega) w3 M3 (hfv.tr f3) (fun l hl => by rw [c3.2.2 l hl, m2 l hl rfl]) hok3 (by omega) (fun h hh => by rw [m4]; exact mx_succ hmx h hh)
        rw [m4, ← nI_1, ← nI_1 i] at this
        refine am_g0 rfl rfl ?_
        refine am_go rfl ?_
        refine am_g0 rfl rfl ?_
        exact am_kl this rfl
      | false =>
        obtain ⟨n1, n2, n3⟩ := hnot rfl
        have this := ih (i + 1) (by omega) w3 H (hfv.tr f3) (fun l hl => by rw [c3.2.2 l hl, n1 l hl]) (okH_mono hok (fun l p hl e => by have := (hok.1 l p hl e).1; omega)) (by omega) (mx_fail hok hmx (fun l hl z => n3 l hl z rfl) n2)
        rw [← nI_1 i] at this
        refine am_go rfl ?_
        refine am_g0 rfl rfl ?_
        exact am_kl this rfl
  have k0 := key 8 0 (by omega) w (fun _ => none) fdFr.rf (fun l hl => by rw [hH l hl]; rfl) ⟨fun _ _ _ z => (by cases z), fun _ _ _ _ _ z _ => (by cases z)⟩
  have z0 : szH (fun _ => none) = 0 := cntN_0 (fun _ _ => rfl)
  rw [z0] at k0
  refine am_kl (k0 (Nat.zero_le _) (fun h hh => ?_)) rfl
  have : szH h = 0 := cntN_0 (fun l hl => by
    cases z : h l with
    | none => rfl
    | some p => exact absurd (hh.1 l p hl z).1 (Nat.not_lt_zero p))
  omega
