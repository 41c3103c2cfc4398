/-! the tables hold of the class files: checked by the kernel -/
def am_GT : List Cond := lw_tbl.filter goodWord
def am_nestw : Cond → Bool
  | .fieldLinkNest .. => true
  | .methodLinkNest .. => true
  | _ => false
def am_NW : List Cond := tables_1.filter am_nestw
theorem am_good : GoodIn am_GT am_GT := fun w h => ⟨h, good_of_word (List.mem_filter.mp h).2⟩
def am_len : Instr → Nat
  | .bipush _ | .ldc _ | .iload _ | .lload _ | .aload _ | .istore _ | .lstore _ | .astore _ => 2
  | .sipush _ | .ldc_w _ | .ldc2_w _ | .iinc _ _ | .goto _ | .ifCond _ _ | .if_icmp _ _ | .getfield _ | .putfield _ | .getstatic _ | .invokevirtual _ | .invokestatic _ => 3
  | _ => 1
def am_tsw : Instr → Bool
  | .tableswitch .. => true
  | _ => false
def am_vok (pc : Nat) (i : Instr) (v : Int32) (t : Nat) : Bool := match i with
  | .iconst n => decide (Int32.ofInt n = v)
  | .bipush n => decide ((Int8.ofInt n).toInt32 = v)
  | .sipush n => decide ((Int16.ofInt n).toInt32 = v)
  | .iinc _ n => decide (Int32.ofInt n = v)
  | .goto o => decide ((pc : Int) + o = (t : Int))
  | .ifCond _ o => decide ((pc : Int) + o = (t : Int))
  | .if_icmp _ o => decide ((pc : Int) + o = (t : Int))
  | _ => true
def am_ok1 (b : ByteArray) (q : am_T5) : Bool :=
  decide (decode b q.1 = .ok (q.2.1, q.2.2.2.1 - q.1)) && (Nat.beq q.2.2.2.1 (q.1 + am_len q.2.1) || am_tsw q.2.1) && am_vok q.1 q.2.1 q.2.2.1 q.2.2.2.2
def am_ckc (a n : Nat) : Bool := (List.range n).all fun i => (am_CD.getD (a + i) []).all (am_ok1 (am_b (a + i)))
set_option maxRecDepth 100000 in
theorem am_tcd_0 : am_ckc 0 20 = true := by decide +kernel
set_option maxRecDepth 100000 in
theorem am_tcd_20 : am_ckc 20 20 = true := by decide +kernel
set_option maxRecDepth 100000 in
theorem am_tcd_40 : am_ckc 40 20 = true := by decide +kernel
set_option maxRecDepth 100000 in
theorem am_tcd_60 : am_ckc 60 20 = true := by decide +kernel
set_option maxRecDepth 100000 in
theorem am_tcd_80 : am_ckc 80 20 = true := by decide +kernel
set_option maxRecDepth 100000 in
theorem am_tcd_100 : am_ckc 100 20 = true := by decide +kernel
set_option maxRecDepth 100000 in
theorem am_tcd_120 : am_ckc 120 20 = true := by decide +kernel
set_option maxRecDepth 100000 in
theorem am_tcd_140 : am_ckc 140 20 = true := by decide +kernel
set_option maxRecDepth 100000 in
theorem am_tcd_160 : am_ckc 160 20 = true := by decide +kernel
set_option maxRecDepth 100000 in
theorem am_tcd_180 : am_ckc 180 20 = true := by decide +kernel
theorem am_tcd {mid : Nat} {l : List am_T5} (h : am_CD[mid]? = some l) : l.all (am_ok1 (am_b mid)) = true := by
  have hl : mid < 199 := (List.getElem?_eq_some_iff.mp h).1
  have key : ∀ a, am_ckc a 20 = true → a ≤ mid → mid < a + 20 → l.all (am_ok1 (am_b mid)) = true := by
    intro a ha h1 h2
    have := List.all_eq_true.mp ha (mid - a) (List.mem_range.mpr (by omega))
    rw [show a + (mid - a) = mid by omega, List.getD_eq_getElem?_getD, h] at this
    exact this
  have hc : mid / 20 < 10 := by omega
  rcases (show mid / 20 = 0 ∨ mid / 20 = 1 ∨ mid / 20 = 2 ∨ mid / 20 = 3 ∨ mid / 20 = 4 ∨ mid / 20 = 5 ∨ mid / 20 = 6 ∨ mid / 20 = 7 ∨ mid / 20 = 8 ∨ mid / 20 = 9 by omega) with e | e | e | e | e | e | e | e | e | e
  · exact key 0 am_tcd_0 (by omega) (by omega)
  · exact key 20 am_tcd_20 (by omega) (by omega)
  · exact key 40 am_tcd_40 (by omega) (by omega)
  · exact key 60 am_tcd_60 (by omega) (by omega)
  · exact key 80 am_tcd_80 (by omega) (by omega)
  · exact key 100 am_tcd_100 (by omega) (by omega)
  · exact key 120 am_tcd_120 (by omega) (by omega)
  · exact key 140 am_tcd_140 (by omega) (by omega)
  · exact key 160 am_tcd_160 (by omega) (by omega)
  · exact key 180 am_tcd_180 (by omega) (by omega)
def am_cn (o : Nat) : String := am_CN.getD o ""
def am_fok (o : Nat) (q : Nat × Nat × Nat × Bool) : Bool := match Nat.beq q.2.1 13 with
  | true => (match q.2.2.1 with
    | 0 => decide (Cond.fieldLink (am_cn o) q.1 "java/lang/String" "value" "[B" ∈ am_GT)
    | _ => decide (Cond.fieldLink (am_cn o) q.1 "java/lang/String" "coder" "B" ∈ am_GT))
  | false => match vwCl[q.2.1]? with
    | some r => match q.2.2.2 with
      | false => decide (Cond.fieldLink (am_cn o) q.1 (r.2.1 q.2.2.1).1 (r.2.1 q.2.2.1).2.1 (r.2.1 q.2.2.1).2.2.1 ∈ am_GT) && Nat.blt q.2.2.1 r.2.2
      | true => decide (Cond.fieldLinkNest (am_cn o) q.1 (r.2.1 q.2.2.1).1 (r.2.1 q.2.2.1).2.1 (r.2.1 q.2.2.1).2.2.1 "DeadLasts" ∈ am_NW) && Nat.blt q.2.2.1 r.2.2
    | none => false
def am_ckf : Bool := (List.range 15).all fun o => (am_FTL.getD o []).all (am_fok o)
set_option maxRecDepth 100000 in
theorem am_tf : am_ckf = true := by decide +kernel
def am_sn (j : Nat) : String := match j with
  | 0 => "HIGHEST_FIGURES"
  | 1 => "STATES"
  | 2 => "THREES"
  | _ => "DIGEST_STEPS"
def am_gok (o : Nat) (q : Nat × Nat × Bool) : Bool := match Nat.ble 4 q.2.1 with
  | true => decide (Cond.fieldLink (am_cn o) q.1 "java/lang/String" "COMPACT_STRINGS" "Z" ∈ am_GT)
  | false => match q.2.2 with
    | false => decide (Cond.fieldLink (am_cn o) q.1 "DeadLasts" (am_sn q.2.1) "[I" ∈ am_GT)
    | true => decide (Cond.fieldLinkNest (am_cn o) q.1 "DeadLasts" (am_sn q.2.1) "[I" "DeadLasts" ∈ am_NW)
def am_ckg : Bool := (List.range 15).all fun o => (am_GSL.getD o []).all (am_gok o)
set_option maxRecDepth 100000 in
theorem am_tg0 : am_ckg = true := by decide +kernel
def am_SL : List (String × Nat × String × Nat) := [("DeadLasts$Town", 42, ".#cr", 4), ("DeadLasts$Lasts", 45, "pdt", 5), ("DeadLasts$Lasts", 52, "nesw", 6), ("DeadLasts$People", 42, "nesw", 7)]
def am_sok (o : Nat) (q : Nat × Nat) : Bool := am_SL.any fun x => decide (x.1 = am_cn o ∧ x.2.1 = q.1 ∧ x.2.2.2 = q.2)
def am_cks : Bool := (List.range 15).all fun o => (am_LSL.getD o []).all (am_sok o)
theorem am_ts : am_cks = true := by decide +kernel
def am_cki : Bool := (List.range 15).all fun o => (am_LIL.getD o []).all fun q => decide (Cond.constant (am_cn o) q.1 q.2 ∈ am_GT)
set_option maxRecDepth 100000 in
theorem am_ti : am_cki = true := by decide +kernel
def am_ckl : Bool := (List.range 15).all fun o => (am_LLL.getD o []).all fun q => decide (Cond.constantLong (am_cn o) q.1 q.2 ∈ am_GT)
set_option maxRecDepth 100000 in
theorem am_tl : am_ckl = true := by decide +kernel
def am_notH (c : String) : Bool := decide (c ≠ "java/lang/invoke/MethodHandle") && decide (c ≠ "java/lang/invoke/VarHandle")
set_option maxRecDepth 100000 in
theorem am_tbi : (decide (Cond.static Lib.Math.min.name ∈ am_GT) && (decide (Cond.static Lib.Math.max.name ∈ am_GT) && (decide (Cond.initialized "java/lang/Math" ∈ am_GT) && (decide (Cond.code Lib.Math.min.name Lib.Math.min.code 2 (some .int) ∈ am_GT) && (decide (Cond.code Lib.Math.max.name Lib.Math.max.code 2 (some .int) ∈ am_GT) && (decide (Cond.native arraycopyName ∈ am_GT) && (decide (Cond.static arraycopyName ∈ am_GT) && decide (Cond.initialized "java/lang/System" ∈ am_GT)))))))) = true := by decide +kernel
/-- a class: its fields' words, their types, their names -/
def am_clok (ci : Nat) (q : vw_C) : Bool := (u_ws q.1 q.2.1 q.2.2).all (fun w => decide (w ∈ am_GT)) && (decide (Cond.initialized q.1 ∈ am_GT) && (decide (q.1 = am_cn ci) &&
  (List.range q.2.2).all fun j => (decide ((q.2.1 j).1 = q.1) && match am_kd ci j with
    | 0 => (match am_bl ci j with
      | true => decide (parseFieldDescriptor (q.2.1 j).2.2.1 = some .boolean)
      | false => decide (parseFieldDescriptor (q.2.1 j).2.2.1 = some .int))
    | 2 => decide (parseFieldDescriptor (q.2.1 j).2.2.1 = some .long)
    | _ => (parseFieldDescriptor (q.2.1 j).2.2.1).isSome)))
def am_ckcl : Bool := (List.range 13).all fun ci => match vwCl[ci]? with
  | some q => am_clok ci q
  | none => false
set_option maxRecDepth 100000 in
theorem am_tcl : am_ckcl = true := by decide +kernel
