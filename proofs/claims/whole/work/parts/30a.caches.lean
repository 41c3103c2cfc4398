/-! sheets, rains, things seen: the class -/
section CACHES
variable {S T : Sp}
theorem Sp.V_c (h1 : T.1 = S.1) (h2 : T.2.1 = S.2.1) : T.V = S.V := by
  show wdS (T.2.1 0) (T.1 0) (T.2.1 1) (T.1 1) = wdS (S.2.1 0) (S.1 0) (S.2.1 1) (S.1 1)
  rw [h1, h2]
theorem Sp.q_c (h1 : T.1 = S.1) (h2 : T.2.1 = S.2.1) : T.q = S.q := by
  show (peopleR (T.2.1 2) (T.1 2)).2.1 = (peopleR (S.2.1 2) (S.1 2)).2.1
  rw [h1, h2]
theorem Sp.pf_c (h1 : T.1 = S.1) (h2 : T.2.1 = S.2.1) : T.pf = S.pf := by
  show (peopleR (T.2.1 2) (T.1 2)).2.2 = (peopleR (S.2.1 2) (S.1 2)).2.2
  rw [h1, h2]
theorem Sp.m_c (h1 : T.1 = S.1) (h2 : T.2.1 = S.2.1) : T.m = S.m := by
  show (lastsR (T.2.1 1) (T.1 1)).2.1 = (lastsR (S.2.1 1) (S.1 1)).2.1
  rw [h1, h2]
theorem wet0_c (h3 : T.2.2.1 = S.2.2.1) : wet0 T = wet0 S := by
  show wetN T.2.2.1.2 (fun _ => false) T.2.2.1.1 = wetN S.2.2.1.2 (fun _ => false) S.2.2.1.1
  rw [h3]
theorem cTr_c {w : am_M} (h1 : T.1 = S.1) (h2 : T.2.1 = S.2.1) (h3 : T.2.2.1 = S.2.2.1) (h : cTr w S) : cTr w T := by
  unfold cTr at h ⊢
  rw [Sp.V_c h1 h2, Sp.q_c h1 h2, Sp.pf_c h1 h2, wet0_c h3]
  exact h
theorem pairA_c (h1 : T.1 = S.1) (h2 : T.2.1 = S.2.1) (h3 : T.2.2.1 = S.2.2.1) : pairA T = pairA S := by
  funext p k
  unfold pairA pairS
  rw [Sp.V_c h1 h2, Sp.m_c h1 h2, Sp.pf_c h1 h2, wet0_c h3]
theorem cPr_c {w : am_M} (h1 : T.1 = S.1) (h2 : T.2.1 = S.2.1) (h3 : T.2.2.1 = S.2.2.1) (h : cPr w S) : cPr w T := by
  unfold cPr at h ⊢
  rw [Sp.q_c h1 h2, pairA_c h1 h2 h3]
  exact h
theorem dryB_c (h1 : T.1 = S.1) (h2 : T.2.1 = S.2.1) (h3 : T.2.2.1 = S.2.2.1) : dryB T = dryB S := by
  funext ex
  unfold dryB
  rw [Sp.V_c h1 h2, Sp.q_c h1 h2, Sp.pf_c h1 h2]
  show allB (fun p => !decide (fin S.V (prS S.pf p) (wetN T.2.2.1.2 ex T.2.2.1.1) = 2)) S.q = _
  rw [h3]
theorem dryS_c (h1 : T.1 = S.1) (h2 : T.2.1 = S.2.1) (h3 : T.2.2.1 = S.2.2.1) : dryS T = dryS S := by
  have e : ∀ a, dry2 T a = dry2 S a := fun a => by
    show firstN (fun b => decide (a < b) && dryB T (ex2 a b)) T.2.2.1.1 = _
    rw [h3, dryB_c h1 h2 h3]
    rfl
  have e2 : dry2 T = dry2 S := funext e
  unfold dryS
  rw [dryB_c h1 h2 h3, e2]
  show (if dryB S (fun _ => false) then some [] else match firstN (fun a => dryB S (ex1 a)) T.2.2.1.1 with
  | some a => some [a]
  | none => match firstN (fun a => (dry2 S a).isSome) T.2.2.1.1 with
    | some a => (match dry2 S a with
      | some b => some [a, b]
      | none => none)
    | none => none) = _
  rw [h3]
  rfl
theorem cDr_c {w : am_M} (h1 : T.1 = S.1) (h2 : T.2.1 = S.2.1) (h3 : T.2.2.1 = S.2.2.1) (h : cDr w S) : cDr w T := by
  unfold cDr dryC at h ⊢
  rw [dryS_c h1 h2 h3]
  exact h
theorem cSt_c {w : am_M} (h1 : T.1 = S.1) (h2 : T.2.1 = S.2.1) (h : cSt w S) : cSt w T := by
  unfold cSt stormS at h ⊢
  rw [Sp.V_c h1 h2, Sp.q_c h1 h2, Sp.pf_c h1 h2]
  exact h
end CACHES
