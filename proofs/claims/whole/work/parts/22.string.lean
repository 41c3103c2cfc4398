/-! indexOf of a String constant: the JDK's own code -/
/-- the first place from i on, of j places, where F is c; -1 -/
def idxU (F : Nat → Int32) (c : Int32) : Nat → Nat → Int32
  | _, 0 => -1
  | i, j + 1 => if F i = c then nI i else idxU F c (i + 1) j
section STRS
variable {sh : List am_S} {d S v0 : Nat} {l : List Int32} {w : am_M}
theorem d_canEncode {v : Nat} (hd : 1 ≤ d) (hv : v < 256) : am_D sh d mi_J1_canEncode_9a6ad [.int (nI v)] w (some (.int 1), w) := by
  refine am_def hd rfl rfl ?_
  iterate 2 refine am_g0 rfl rfl ?_
  refine am_ff (show ¬ nI v < 0 from nI_pos (by omega)) ?_
  iterate 3 refine am_g0 rfl rfl ?_
  refine am_ff (show ¬ nI 255 < nI v from nI_nlt (by omega) (by omega)) ?_
  iterate 2 refine am_g0 rfl rfl ?_
  refine am_go rfl ?_
  exact ⟨rfl, rfl⟩
theorem d_isLatin1 (hd : 1 ≤ d) (hS : am_sv S = some v0) : am_D sh d mi_J0_isLatin1_aae02 [.ref S] w (some (.int 1), w) := by
  refine am_def hd rfl rfl ?_
  iterate 4 refine am_g0 rfl rfl ?_
  refine am_oi hS ?_
  iterate 3 refine am_g0 rfl rfl ?_
  refine am_go rfl ?_
  exact ⟨rfl, rfl⟩
theorem d_coder (hd : 1 ≤ d) (hS : am_sv S = some v0) : am_D sh d mi_J0_coder_7d493 [.ref S] w (some (.int 0), w) := by
  refine am_def hd rfl rfl ?_
  iterate 4 refine am_g0 rfl rfl ?_
  refine am_oi hS ?_
  refine am_g0 rfl rfl ?_
  refine am_go rfl ?_
  exact ⟨rfl, rfl⟩
theorem d_isstr (hS : am_sv S = some v0) : am_isstr S = true := by
  obtain ⟨j, rfl, hj⟩ := am_sv_s hS
  unfold am_isstr
  rw [Nat.ble_eq_true_of_le (by omega), show 1000 + j - 1000 = j by omega, hj]
theorem d_slength (hd : 2 ≤ d) (hS : am_sv S = some v0) (hB : am_sb (1000 + v0) = some l) (hl : l.length ≤ 4) : am_D sh d mi_J0_length_8abf5 [.ref S] w (some (.int (nI l.length)), w) := by
  refine am_def (by omega) rfl rfl ?_
  iterate 2 refine am_g0 rfl rfl ?_
  refine am_oi hS ?_
  refine am_g0 rfl rfl ?_
  refine am_oi (am_sl_b hB) ?_
  iterate 2 refine am_g0 rfl rfl ?_
  refine am_ys (show (true && (true && am_isstr S)) = true by rw [d_isstr hS]; rfl) ?_
  refine ⟨(some (.int 0), w), d_coder (by omega) hS, ?_⟩
  refine am_g0 rfl rfl ?_
  refine am_top (y := nI l.length) ?_ ?_
  · rcases (show l.length = 0 ∨ l.length = 1 ∨ l.length = 2 ∨ l.length = 3 ∨ l.length = 4 by omega) with e | e | e | e | e <;> rw [e] <;> decide
  · refine am_g0 rfl rfl ?_
    exact ⟨rfl, rfl⟩
theorem d_indexOfChar {v : Nat} (hd : 1 ≤ d) (hB : am_sb (1000 + v0) = some l) (hl : l.length ≤ 4) : am_D sh d mi_J1_indexOfChar_4cfef [.ref (1000 + v0), .int (nI v), .int 0, .int (nI l.length)] w (some (.int (idxU (fun i => l.getD i 0) (nI v).toInt8.toInt32 0 l.length)), w) := by
  refine am_def (by omega) rfl rfl ?_
  iterate 5 refine am_g0 rfl rfl ?_
  generalize (nI v).toInt8.toInt32 = cb
  have key : ∀ j i : Nat, i + j = l.length → am_R sh mi_J1_indexOfChar_4cfef (am_D sh (d - 1)) (fun r => r = (some (.int (idxU (fun i => l.getD i 0) cb i j)), w)) 7 [(0, .ref (1000 + v0)), (3, .int (nI l.length)), (4, .int cb), (5, .int (nI i))] [] w := by
    intro j
    induction j with
    | zero =>
      intro i hi
      refine am_go rfl ?_
      iterate 2 refine am_g0 rfl rfl ?_
      refine am_tt (show nI l.length ≤ nI i from nI_le (by omega) (by omega)) ?_
      refine am_go rfl ?_
      refine am_g0 rfl rfl ?_
      exact ⟨rfl, rfl⟩
    | succ j ih =>
      intro i hi
      refine am_go rfl ?_
      iterate 2 refine am_g0 rfl rfl ?_
      refine am_ff (show ¬ nI l.length ≤ nI i from nI_ge (by omega) (by omega)) ?_
      iterate 3 refine am_g0 rfl rfl ?_
      refine am_oi hB (am_ff (nI_in (by omega) (by omega)) ?_)
      refine am_top (y := l.getD i 0) (by rw [nI_clamp (by omega)]) ?_
      iterate 2 refine am_g0 rfl rfl ?_
      by_cases h : l.getD i 0 = cb
      · refine am_tt h ?_
        iterate 2 refine am_g0 rfl rfl ?_
        refine ⟨rfl, ?_⟩
        rw [idxU, if_pos h]
      · refine am_ff h ?_
        refine am_go rfl ?_
        refine am_g0 rfl rfl ?_
        have := ih (i + 1) (by omega)
        rw [← nI_1] at this
        rw [idxU, if_neg h]
        exact this
  exact am_kl (key l.length 0 (by omega)) rfl
theorem d_lindexOf {v : Nat} (hd : 2 ≤ d) (hB : am_sb (1000 + v0) = some l) (hl : l.length ≤ 4) (hl1 : 1 ≤ l.length) (hv : v < 256) : am_D sh d mi_J1_indexOf_4cfef [.ref (1000 + v0), .int (nI v), .int 0, .int (nI l.length)] w (some (.int (idxU (fun i => l.getD i 0) (nI v).toInt8.toInt32 0 l.length)), w) := by
  refine am_def (by omega) rfl rfl ?_
  iterate 2 refine am_g0 rfl rfl ?_
  refine ⟨(some (.int 1), w), d_canEncode (by omega) hv, ?_⟩
  refine am_to (lv' := [(0, .ref (1000 + v0)), (1, .int (nI v)), (2, .int 0), (3, .int (nI l.length))]) (st' := [.int 1]) (w' := w) rfl rfl rfl ?_
  refine am_g0 rfl rfl ?_
  refine am_go rfl ?_
  iterate 2 refine am_g0 rfl rfl ?_
  refine am_top (y := 0) rfl ?_
  iterate 4 refine am_g0 rfl rfl ?_
  refine am_oi (am_sl_b hB) ?_
  refine am_g0 rfl rfl ?_
  refine am_top (y := nI l.length) (if_neg (nI_nlt (Nat.le_refl _) (by omega))) ?_
  iterate 4 refine am_g0 rfl rfl ?_
  refine am_tt (show (0 : Int32) < nI l.length from nI_lt (a := 0) (by omega) (by omega)) ?_
  refine am_to (lv' := [(0, .ref (1000 + v0)), (1, .int (nI v)), (2, .int 0), (3, .int (nI l.length))]) (st' := []) (w' := w) rfl rfl rfl ?_
  refine am_go rfl ?_
  iterate 4 refine am_g0 rfl rfl ?_
  refine ⟨(some (.int (idxU (fun i => l.getD i 0) (nI v).toInt8.toInt32 0 l.length)), w), d_indexOfChar (by omega) hB hl, ?_⟩
  refine am_g0 rfl rfl ?_
  exact ⟨rfl, rfl⟩
theorem d_indexOf2 {v : Nat} (hd : 3 ≤ d) (hS : am_sv S = some v0) (hB : am_sb (1000 + v0) = some l) (hl : l.length ≤ 4) (hl1 : 1 ≤ l.length) (hv : v < 256) : am_D sh d mi_J0_indexOf_7cf53 [.ref S, .int (nI v), .int 0] w (some (.int (idxU (fun i => l.getD i 0) (nI v).toInt8.toInt32 0 l.length)), w) := by
  refine am_def (by omega) rfl rfl ?_
  iterate 2 refine am_g0 rfl rfl ?_
  refine am_ys (show (true && (true && am_isstr S)) = true by rw [d_isstr hS]; rfl) ?_
  refine ⟨(some (.int 1), w), d_isLatin1 (by omega) hS, ?_⟩
  refine am_to (lv' := [(0, .ref S), (1, .int (nI v)), (2, .int 0)]) (st' := [.int 1]) (w' := w) rfl rfl rfl ?_
  iterate 3 refine am_g0 rfl rfl ?_
  refine am_oi hS ?_
  iterate 4 refine am_g0 rfl rfl ?_
  refine am_ys (show (true && (true && am_isstr S)) = true by rw [d_isstr hS]; rfl) ?_
  refine ⟨(some (.int (nI l.length)), w), d_slength (by omega) hS hB hl, ?_⟩
  refine am_g0 rfl rfl ?_
  refine ⟨(some (.int (idxU (fun i => l.getD i 0) (nI v).toInt8.toInt32 0 l.length)), w), d_lindexOf (by omega) hB hl hl1 hv, ?_⟩
  refine am_g0 rfl rfl ?_
  refine am_go rfl ?_
  exact ⟨rfl, rfl⟩
theorem d_indexOf {v : Nat} (hd : 4 ≤ d) (hS : am_sv S = some v0) (hB : am_sb (1000 + v0) = some l) (hl : l.length ≤ 4) (hl1 : 1 ≤ l.length) (hv : v < 256) : am_D sh d mi_J0_indexOf_0f7a4 [.ref S, .int (nI v)] w (some (.int (idxU (fun i => l.getD i 0) (nI v).toInt8.toInt32 0 l.length)), w) := by
  refine am_def (by omega) rfl rfl ?_
  iterate 4 refine am_g0 rfl rfl ?_
  refine am_ys (show (true && (true && am_isstr S)) = true by rw [d_isstr hS]; rfl) ?_
  refine ⟨(some (.int (idxU (fun i => l.getD i 0) (nI v).toInt8.toInt32 0 l.length)), w), d_indexOf2 (by omega) hS hB hl hl1 hv, ?_⟩
  refine am_g0 rfl rfl ?_
  exact ⟨rfl, rfl⟩
end STRS
/-- the sign's place in ".#cr", "pdt", "nesw" -/
def cellN (v : Nat) : Option Nat := if v = 46 then some 0 else if v = 35 then some 1 else if v = 99 then some 2 else if v = 114 then some 3 else none
def kindN (v : Nat) : Option Nat := if v = 112 then some 0 else if v = 100 then some 1 else if v = 116 then some 2 else none
def wayN (v : Nat) : Option Nat := if v = 110 then some 0 else if v = 101 then some 1 else if v = 115 then some 2 else if v = 119 then some 3 else none
theorem idx_cell : ∀ v, v < 256 → idxU (fun i => ([46, 35, 99, 114] : List Int32).getD i 0) (nI v).toInt8.toInt32 0 4 = opI (cellN v) := by decide +kernel
theorem idx_kind : ∀ v, v < 256 → idxU (fun i => ([112, 100, 116] : List Int32).getD i 0) (nI v).toInt8.toInt32 0 3 = opI (kindN v) := by decide +kernel
theorem idx_way : ∀ v, v < 256 → idxU (fun i => ([110, 101, 115, 119] : List Int32).getD i 0) (nI v).toInt8.toInt32 0 4 = opI (wayN v) := by decide +kernel
