/-! leaves of the model -/
theorem i64_toInt (x : Int32) : x.toInt64.toInt = x.toInt := Int32.toInt_toInt64 x
theorem m_in_f {d : Nat} {a b c : Int64} {w : am_M} (hd : 1 ≤ d) (h : a < b ∨ c < a) : am_D shM d mi_X12_in [.long a, .long b, .long c] w (some (.int 0), w) := by
  refine am_def (by omega) rfl rfl ?_
  iterate 4 refine am_g0 rfl rfl ?_
  by_cases h1 : a < b
  · refine am_tt (show (lg_cmp a b : Int32) < 0 from (lg_cmp_lt a b).mpr h1) ?_
    refine am_go rfl ?_
    refine am_go rfl ?_
    exact ⟨rfl, rfl⟩
  · refine am_ff (show ¬ (lg_cmp a b : Int32) < 0 from fun z => h1 ((lg_cmp_lt a b).mp z)) ?_
    iterate 4 refine am_g0 rfl rfl ?_
    refine am_tt (show (0 : Int32) < (lg_cmp a c) from (lg_cmp_gt a c).mpr (h.resolve_left h1)) ?_
    refine am_go rfl ?_
    refine am_go rfl ?_
    exact ⟨rfl, rfl⟩
theorem m_in_t {d : Nat} {a b c : Int64} {w : am_M} (hd : 1 ≤ d) (h1 : ¬ a < b) (h2 : ¬ c < a) : am_D shM d mi_X12_in [.long a, .long b, .long c] w (some (.int 1), w) := by
  refine am_def (by omega) rfl rfl ?_
  iterate 4 refine am_g0 rfl rfl ?_
  refine am_ff (show ¬ (lg_cmp a b : Int32) < 0 from fun z => h1 ((lg_cmp_lt a b).mp z)) ?_
  iterate 4 refine am_g0 rfl rfl ?_
  refine am_ff (show ¬ (0 : Int32) < (lg_cmp a c) from fun z => h2 ((lg_cmp_gt a c).mp z)) ?_
  iterate 2 refine am_g0 rfl rfl ?_
  refine am_go rfl ?_
  exact ⟨rfl, rfl⟩
theorem m_inn {d n : Nat} {x : Int32} {c : Int64} {w : am_M} (hd : 1 ≤ d) (hn : n < 2 ^ 31) (hc : c.toInt = (n : Int) - 1) (hx : dI x n = none) : am_D shM d mi_X12_in [.long x.toInt64, .long 0, .long c] w (some (.int 0), w) := by
  refine m_in_f hd ?_
  rcases dI_fi hx with z | z
  · left
    rw [Int64.lt_iff_toInt_lt, i64_toInt]
    rw [Int32.lt_iff_toInt_lt] at z
    exact z
  · right
    rw [Int64.lt_iff_toInt_lt, i64_toInt, hc]
    rw [Int32.le_iff_toInt_le, nI_toInt hn] at z
    omega
theorem m_ins {d n i : Nat} {c : Int64} {w : am_M} (hd : 1 ≤ d) (hn : n < 2 ^ 31) (hc : c.toInt = (n : Int) - 1) (hi : i < n) : am_D shM d mi_X12_in [.long (nI i).toInt64, .long 0, .long c] w (some (.int 1), w) := by
  refine m_in_t hd ?_ ?_
  · rw [Int64.lt_iff_toInt_lt, i64_toInt, nI_toInt (by omega)]
    show ¬ (i : Int) < 0
    omega
  · rw [Int64.lt_iff_toInt_lt, i64_toInt, nI_toInt (by omega), hc]
    omega
theorem m_isTwo_n {d : Nat} {x : Int32} {w : am_M} (hd : 2 ≤ d) (hx : dI x 2 = none) : am_D shM d mi_X12_isTwo [.int x] w (some (.int 0), w) := by
  refine am_def (by omega) rfl rfl ?_
  iterate 5 refine am_g0 rfl rfl ?_
  refine ⟨(some (.int 0), w), m_inn (n := 2) (by omega) (by omega) (by decide) hx, ?_⟩
  refine am_to (lv' := [(0, .int x)]) (st' := [.int 0]) (w' := w) rfl rfl rfl ?_
  refine am_g0 rfl rfl ?_
  exact ⟨rfl, rfl⟩
theorem m_isTwo_s {d i : Nat} {w : am_M} (hd : 2 ≤ d) (hi : i < 2) : am_D shM d mi_X12_isTwo [.int (nI i)] w (some (.int 1), w) := by
  refine am_def (by omega) rfl rfl ?_
  iterate 5 refine am_g0 rfl rfl ?_
  refine ⟨(some (.int 1), w), m_ins (n := 2) (by omega) (by omega) (by decide) hi, ?_⟩
  refine am_to (lv' := [(0, .int (nI i))]) (st' := [.int 1]) (w' := w) rfl rfl rfl ?_
  refine am_g0 rfl rfl ?_
  exact ⟨rfl, rfl⟩
theorem m_isText_n {d : Nat} {x : Int32} {w : am_M} (hd : 2 ≤ d) (hx : dI x 3 = none) : am_D shM d mi_X12_isText [.int x] w (some (.int 0), w) := by
  refine am_def (by omega) rfl rfl ?_
  iterate 5 refine am_g0 rfl rfl ?_
  refine ⟨(some (.int 0), w), m_inn (n := 3) (by omega) (by omega) (by decide) hx, ?_⟩
  refine am_to (lv' := [(0, .int x)]) (st' := [.int 0]) (w' := w) rfl rfl rfl ?_
  refine am_g0 rfl rfl ?_
  exact ⟨rfl, rfl⟩
theorem m_isText_s {d i : Nat} {w : am_M} (hd : 2 ≤ d) (hi : i < 3) : am_D shM d mi_X12_isText [.int (nI i)] w (some (.int 1), w) := by
  refine am_def (by omega) rfl rfl ?_
  iterate 5 refine am_g0 rfl rfl ?_
  refine ⟨(some (.int 1), w), m_ins (n := 3) (by omega) (by omega) (by decide) hi, ?_⟩
  refine am_to (lv' := [(0, .int (nI i))]) (st' := [.int 1]) (w' := w) rfl rfl rfl ?_
  refine am_g0 rfl rfl ?_
  exact ⟨rfl, rfl⟩
theorem m_isSheet_n {d : Nat} {x : Int32} {w : am_M} (hd : 2 ≤ d) (hx : dI x 4 = none) : am_D shM d mi_X12_isSheet [.int x] w (some (.int 0), w) := by
  refine am_def (by omega) rfl rfl ?_
  iterate 5 refine am_g0 rfl rfl ?_
  refine ⟨(some (.int 0), w), m_inn (n := 4) (by omega) (by omega) (by decide) hx, ?_⟩
  refine am_to (lv' := [(0, .int x)]) (st' := [.int 0]) (w' := w) rfl rfl rfl ?_
  refine am_g0 rfl rfl ?_
  exact ⟨rfl, rfl⟩
theorem m_isSheet_s {d i : Nat} {w : am_M} (hd : 2 ≤ d) (hi : i < 4) : am_D shM d mi_X12_isSheet [.int (nI i)] w (some (.int 1), w) := by
  refine am_def (by omega) rfl rfl ?_
  iterate 5 refine am_g0 rfl rfl ?_
  refine ⟨(some (.int 1), w), m_ins (n := 4) (by omega) (by omega) (by decide) hi, ?_⟩
  refine am_to (lv' := [(0, .int (nI i))]) (st' := [.int 1]) (w' := w) rfl rfl rfl ?_
  refine am_g0 rfl rfl ?_
  exact ⟨rfl, rfl⟩
theorem m_isStep_n {d : Nat} {x : Int32} {w : am_M} (hd : 2 ≤ d) (hx : dI x 30 = none) : am_D shM d mi_X12_isStep [.int x] w (some (.int 0), w) := by
  refine am_def (by omega) rfl rfl ?_
  iterate 5 refine am_g0 rfl rfl ?_
  refine ⟨(some (.int 0), w), m_inn (n := 30) (by omega) (by omega) (by decide) hx, ?_⟩
  refine am_to (lv' := [(0, .int x)]) (st' := [.int 0]) (w' := w) rfl rfl rfl ?_
  refine am_g0 rfl rfl ?_
  exact ⟨rfl, rfl⟩
theorem m_isStep_s {d i : Nat} {w : am_M} (hd : 2 ≤ d) (hi : i < 30) : am_D shM d mi_X12_isStep [.int (nI i)] w (some (.int 1), w) := by
  refine am_def (by omega) rfl rfl ?_
  iterate 5 refine am_g0 rfl rfl ?_
  refine ⟨(some (.int 1), w), m_ins (n := 30) (by omega) (by omega) (by decide) hi, ?_⟩
  refine am_to (lv' := [(0, .int (nI i))]) (st' := [.int 1]) (w' := w) rfl rfl rfl ?_
  refine am_g0 rfl rfl ?_
  exact ⟨rfl, rfl⟩
theorem m1_toInt {x : Int32} {n : Nat} (h : x = nI n) (hn : n ≤ 8) : (x - 1).toInt64.toInt = (n : Int) - 1 := by
  rw [i64_toInt, h, show (1 : Int32) = nI 1 from rfl, pk_sub_toInt (by omega) (by omega)]
  rfl
theorem m_isLast_n {d n : Nat} {x : Int32} {w : am_M} (hd : 2 ≤ d) (hn : n ≤ 8) (hw : w.1 0 10 = nI n) (hx : dI x n = none) : am_D shM d mi_X12_isLast [.ref 0, .int x] w (some (.int 0), w) := by
  refine am_def (by omega) rfl rfl ?_
  iterate 9 refine am_g0 rfl rfl ?_
  refine ⟨(some (.int 0), w), m_inn (n := n) (by omega) (by omega) (m1_toInt hw hn) hx, ?_⟩
  refine am_to (lv' := [(0, .ref 0), (1, .int x)]) (st' := [.int 0]) (w' := w) rfl rfl rfl ?_
  refine am_g0 rfl rfl ?_
  exact ⟨rfl, rfl⟩
theorem m_isLast_s {d n i : Nat} {w : am_M} (hd : 2 ≤ d) (hn : n ≤ 8) (hw : w.1 0 10 = nI n) (hi : i < n) : am_D shM d mi_X12_isLast [.ref 0, .int (nI i)] w (some (.int 1), w) := by
  refine am_def (by omega) rfl rfl ?_
  iterate 9 refine am_g0 rfl rfl ?_
  refine ⟨(some (.int 1), w), m_ins (n := n) (by omega) (by omega) (m1_toInt hw hn) hi, ?_⟩
  refine am_to (lv' := [(0, .ref 0), (1, .int (nI i))]) (st' := [.int 1]) (w' := w) rfl rfl rfl ?_
  refine am_g0 rfl rfl ?_
  exact ⟨rfl, rfl⟩
theorem m_isPerson_n {d n : Nat} {x : Int32} {w : am_M} (hd : 2 ≤ d) (hn : n ≤ 8) (hw : w.1 0 14 = nI n) (hx : dI x n = none) : am_D shM d mi_X12_isPerson [.ref 0, .int x] w (some (.int 0), w) := by
  refine am_def (by omega) rfl rfl ?_
  iterate 9 refine am_g0 rfl rfl ?_
  refine ⟨(some (.int 0), w), m_inn (n := n) (by omega) (by omega) (m1_toInt hw hn) hx, ?_⟩
  refine am_to (lv' := [(0, .ref 0), (1, .int x)]) (st' := [.int 0]) (w' := w) rfl rfl rfl ?_
  refine am_g0 rfl rfl ?_
  exact ⟨rfl, rfl⟩
theorem m_isPerson_s {d n i : Nat} {w : am_M} (hd : 2 ≤ d) (hn : n ≤ 8) (hw : w.1 0 14 = nI n) (hi : i < n) : am_D shM d mi_X12_isPerson [.ref 0, .int (nI i)] w (some (.int 1), w) := by
  refine am_def (by omega) rfl rfl ?_
  iterate 9 refine am_g0 rfl rfl ?_
  refine ⟨(some (.int 1), w), m_ins (n := n) (by omega) (by omega) (m1_toInt hw hn) hi, ?_⟩
  refine am_to (lv' := [(0, .ref 0), (1, .int (nI i))]) (st' := [.int 1]) (w' := w) rfl rfl rfl ?_
  refine am_g0 rfl rfl ?_
  exact ⟨rfl, rfl⟩
theorem m_isIn {d l : Nat} {x : Int32} {b : Bool} {w : am_M} (hd : 1 ≤ d) (h : wetB x l = b) : am_D shM d mi_X12_isIn [.int x, .int (nI l)] w (some (.int (b01 b)), w) := by
  refine am_def (by omega) rfl rfl ?_
  iterate 7 refine am_g0 rfl rfl ?_
  rcases bit_01 (x >>> (nI l &&& 31)) with z | z
  · refine am_ff (show ¬ (((x : Int32) >>> ((nI l) &&& 31)) &&& 1 : Int32) = 1 from by rw [z]; decide) ?_
    refine am_go rfl ?_
    refine am_go rfl ?_
    refine ⟨rfl, ?_⟩
    rw [← h]
    unfold wetB
    rw [z]
    rfl
  · refine am_tt (show (((x : Int32) >>> ((nI l) &&& 31)) &&& 1 : Int32) = 1 from z) ?_
    iterate 2 refine am_g0 rfl rfl ?_
    refine am_go rfl ?_
    refine ⟨rfl, ?_⟩
    rw [← h]
    unfold wetB
    rw [z]
    rfl
theorem m_finds {d : Nat} {x : Int32} {w : am_M} (hd : 1 ≤ d) : am_D shM d mi_X12_finds [.ref 0, .int x] w (some (.int ((-10) - x)), am_pi w 0 4 x) := by
  refine am_def (by omega) rfl rfl ?_
  iterate 7 refine am_g0 rfl rfl ?_
  exact ⟨rfl, rfl⟩
theorem m_torn {d : Nat} {x : Int32} {w : am_M} (hd : 1 ≤ d) : am_D shM d mi_X12_torn [.ref 0, .int x] w (some (.int x), am_pi (am_pi w 0 7 0) 0 8 0) := by
  refine am_def (by omega) rfl rfl ?_
  iterate 8 refine am_g0 rfl rfl ?_
  exact ⟨rfl, rfl⟩
theorem m_cut {d : Nat} {f v : Int32} {w : am_M} (hd : 1 ≤ d) : am_D shM d mi_X12_cut [.int f, .int v] w (some (.int (cCut f v)), w) := by
  refine am_def (by omega) rfl rfl ?_
  iterate 2 refine am_g0 rfl rfl ?_
  by_cases h0 : f = 0
  · refine am_tt (show (f : Int32) = 0 from h0) ?_
    iterate 3 refine am_g0 rfl rfl ?_
    refine am_go rfl ?_
    exact ⟨rfl, by unfold cCut; rw [if_pos h0]⟩
  · refine am_ff (show ¬ (f : Int32) = 0 from h0) ?_
    refine am_go rfl ?_
    iterate 2 refine am_g0 rfl rfl ?_
    by_cases h1 : f = 1
    · refine am_tt (show (f : Int32) = 1 from h1) ?_
      iterate 3 refine am_g0 rfl rfl ?_
      refine am_go rfl ?_
      exact ⟨rfl, by unfold cCut; rw [if_neg h0, if_pos h1]⟩
    · refine am_ff (show ¬ (f : Int32) = 1 from h1) ?_
      refine am_go rfl ?_
      refine am_go rfl ?_
      exact ⟨rfl, by unfold cCut; rw [if_neg h0, if_neg h1]⟩
theorem m_lesser {d : Nat} {x y : Int32} {w : am_M} (hd : 1 ≤ d) : am_D shM d mi_X12_lesser [.int x, .int y] w (some (.int (if x < y then x else y)), w) := by
  refine am_def (by omega) rfl rfl ?_
  iterate 3 refine am_g0 rfl rfl ?_
  by_cases h : x < y
  · refine am_ff (show ¬ (y : Int32) ≤ x from fun z => absurd h (Int32.not_lt.mpr z)) ?_
    iterate 2 refine am_g0 rfl rfl ?_
    refine am_go rfl ?_
    exact ⟨rfl, by rw [if_pos h]⟩
  · refine am_tt (show (y : Int32) ≤ x from Int32.not_lt.mp h) ?_
    refine am_go rfl ?_
    refine am_go rfl ?_
    exact ⟨rfl, by rw [if_neg h]⟩
theorem m_greater {d a b : Nat} {w : am_M} (hd : 1 ≤ d) (ha : a < 1000) (hb : b < 1000) : am_D shM d mi_X12_greater [.int (nI a), .int (nI b)] w (some (.int (nI (if b < a then a else b))), w) := by
  refine am_def (by omega) rfl rfl ?_
  iterate 3 refine am_g0 rfl rfl ?_
  by_cases h : b < a
  · refine am_ff (show ¬ (nI a : Int32) ≤ (nI b) from nI_ge h (by omega)) ?_
    iterate 2 refine am_g0 rfl rfl ?_
    refine am_go rfl ?_
    exact ⟨rfl, by rw [if_pos h]⟩
  · refine am_tt (show (nI a : Int32) ≤ (nI b) from nI_le (by omega) (by omega)) ?_
    refine am_go rfl ?_
    refine am_go rfl ?_
    exact ⟨rfl, by rw [if_neg h]⟩
/-- a number or WRONG -/
def wrgI : Option Nat → Int32
  | some k => nI k
  | none => -9
theorem m_cellOf {d v : Nat} {w : am_M} (hd : 1 ≤ d) (hv : v < 256) : am_D shM d mi_X12_cellOf [.int (nI v)] w (some (.int (wrgI (cellN v))), w) := by
  refine am_def (by omega) rfl rfl ?_
  iterate 3 refine am_g0 rfl rfl ?_
  by_cases h0 : v = 46
  · refine am_tt (show (nI v : Int32) = 46 from by rw [h0]; rfl) ?_
    iterate 2 refine am_g0 rfl rfl ?_
    refine am_go rfl ?_
    exact ⟨rfl, by rw [h0]; rfl⟩
  · refine am_ff (show ¬ (nI v : Int32) = 46 from nne (b := 46) h0 (by omega) (by omega)) ?_
    refine am_go rfl ?_
    iterate 2 refine am_g0 rfl rfl ?_
    by_cases h1 : v = 35
    · refine am_tt (show (nI v : Int32) = 35 from by rw [h1]; rfl) ?_
      iterate 2 refine am_g0 rfl rfl ?_
      refine am_go rfl ?_
      exact ⟨rfl, by rw [h1]; rfl⟩
    · refine am_ff (show ¬ (nI v : Int32) = 35 from nne (b := 35) h1 (by omega) (by omega)) ?_
      refine am_go rfl ?_
      iterate 2 refine am_g0 rfl rfl ?_
      by_cases h2 : v = 99
      · refine am_tt (show (nI v : Int32) = 99 from by rw [h2]; rfl) ?_
        iterate 2 refine am_g0 rfl rfl ?_
        refine am_go rfl ?_
        exact ⟨rfl, by rw [h2]; rfl⟩
      · refine am_ff (show ¬ (nI v : Int32) = 99 from nne (b := 99) h2 (by omega) (by omega)) ?_
        refine am_go rfl ?_
        iterate 2 refine am_g0 rfl rfl ?_
        by_cases h3 : v = 114
        · refine am_tt (show (nI v : Int32) = 114 from by rw [h3]; rfl) ?_
          iterate 2 refine am_g0 rfl rfl ?_
          refine am_go rfl ?_
          exact ⟨rfl, by rw [h3]; rfl⟩
        · refine am_ff (show ¬ (nI v : Int32) = 114 from nne (b := 114) h3 (by omega) (by omega)) ?_
          refine am_go rfl ?_
          refine am_go rfl ?_
          exact ⟨rfl, by unfold cellN; rw [if_neg h0, if_neg h1, if_neg h2, if_neg h3]; rfl⟩
theorem m_wayOf {d v : Nat} {w : am_M} (hd : 1 ≤ d) (hv : v < 256) : am_D shM d mi_X12_wayOf [.int (nI v)] w (some (.int (wrgI (wayN v))), w) := by
  refine am_def (by omega) rfl rfl ?_
  iterate 3 refine am_g0 rfl rfl ?_
  by_cases h0 : v = 110
  · refine am_tt (show (nI v : Int32) = 110 from by rw [h0]; rfl) ?_
    iterate 2 refine am_g0 rfl rfl ?_
    refine am_go rfl ?_
    exact ⟨rfl, by rw [h0]; rfl⟩
  · refine am_ff (show ¬ (nI v : Int32) = 110 from nne (b := 110) h0 (by omega) (by omega)) ?_
    refine am_go rfl ?_
    iterate 2 refine am_g0 rfl rfl ?_
    by_cases h1 : v = 101
    · refine am_tt (show (nI v : Int32) = 101 from by rw [h1]; rfl) ?_
      iterate 2 refine am_g0 rfl rfl ?_
      refine am_go rfl ?_
      exact ⟨rfl, by rw [h1]; rfl⟩
    · refine am_ff (show ¬ (nI v : Int32) = 101 from nne (b := 101) h1 (by omega) (by omega)) ?_
      refine am_go rfl ?_
      iterate 2 refine am_g0 rfl rfl ?_
      by_cases h2 : v = 115
      · refine am_tt (show (nI v : Int32) = 115 from by rw [h2]; rfl) ?_
        iterate 2 refine am_g0 rfl rfl ?_
        refine am_go rfl ?_
        exact ⟨rfl, by rw [h2]; rfl⟩
      · refine am_ff (show ¬ (nI v : Int32) = 115 from nne (b := 115) h2 (by omega) (by omega)) ?_
        refine am_go rfl ?_
        iterate 2 refine am_g0 rfl rfl ?_
        by_cases h3 : v = 119
        · refine am_tt (show (nI v : Int32) = 119 from by rw [h3]; rfl) ?_
          iterate 2 refine am_g0 rfl rfl ?_
          refine am_go rfl ?_
          exact ⟨rfl, by rw [h3]; rfl⟩
        · refine am_ff (show ¬ (nI v : Int32) = 119 from nne (b := 119) h3 (by omega) (by omega)) ?_
          refine am_go rfl ?_
          refine am_go rfl ?_
          exact ⟨rfl, by unfold wayN; rw [if_neg h0, if_neg h1, if_neg h2, if_neg h3]; rfl⟩
theorem m_power {d b n : Nat} {w : am_M} (hd : 1 ≤ d) (hn : n < 6) : am_D shM d mi_X12_power [.int (nI b), .int (nI n)] w (some (.int (nI (b ^ n))), w) := by
  refine am_def (by omega) rfl rfl ?_
  iterate 4 refine am_g0 rfl rfl ?_
  have key : ∀ j i : Nat, i + j = n → am_R shM mi_X12_power (am_D shM (d - 1)) (fun r => r = (some (.int (nI (b ^ n))), w)) 4 [(0, .int (nI b)), (1, .int (nI n)), (2, .int (nI (b ^ i))), (3, .int (nI i))] [] w := by
    intro j
    induction j with
    | zero =>
      intro i hi
      refine am_go rfl ?_
      iterate 2 refine am_g0 rfl rfl ?_
      refine am_tt (show (nI n : Int32) ≤ (nI i) from nI_le (by omega) (by omega)) ?_
      refine am_go rfl ?_
      refine am_g0 rfl rfl ?_
      exact ⟨rfl, by rw [show i = n by omega]⟩
    | succ j ih =>
      intro i hi
      refine am_go rfl ?_
      iterate 2 refine am_g0 rfl rfl ?_
      refine am_ff (show ¬ (nI n : Int32) ≤ (nI i) from nI_ge (by omega) (by omega)) ?_
      iterate 3 refine am_g0 rfl rfl ?_
      refine am_top (y := nI (b ^ (i + 1))) (by rw [pk_mul, Nat.pow_succ]) ?_
      iterate 3 refine am_g0 rfl rfl ?_
      have this := ih (i + 1) (by omega)
      rw [← nI_1] at this
      exact am_kl this rfl
  exact am_kl (key n 0 (by omega)) rfl
